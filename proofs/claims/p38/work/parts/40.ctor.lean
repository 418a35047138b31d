/-! CONSTRUCTORS: worlds that are written out and grow -/
def rmC (n mc ms : Nat) : Room := { frames := n, cells := mc, slots := ms, locals := 50 * n }
/-- the room holds at least so much -/
def rmLe (n mc ms : Nat) (R : Room) : Prop := n ≤ R.frames ∧ mc ≤ R.cells ∧ ms ≤ R.slots ∧ 50 * n ≤ R.locals
def mOs : List FieldType := [.array .int, .array .byte, .object "CalledNumbers$Deeds", .object "CalledNumbers$Hall", .object "CalledNumbers$Plain"]
def mO (U : State) : Prop := ∀ ty ∈ mOs, (Cond.arrayOver ty).before #[] U = true
theorem mO_moved {s U : State} (h : s.vm.Alike U.vm) (hO : mO s) : mO U := by
  intro ty ht
  have h1 := Cond.arrayOver_setVmC (args := #[]) h ty
  have h2 : (Cond.arrayOver ty).before #[] (s.setVm U.vm) = (Cond.arrayOver ty).before #[] U := rfl
  rw [← h2, h1]
  exact hO ty ht
def Wc (K : Kx) (A : Nat → Prop) (ws : va_W) (cs sl : Nat) (pc : Nat) (lv : List (Nat × Value)) (st : List Value) : Prop :=
  ∀ (H : Heap) (locs : List Loc) (ls : Array Slot), va_P (kD K) vwCl ws H → va_D A ws → va_S A (ks K).heap H locs → lv_has ls (kn K) lv → W (kp K) (kl K) (ke K) (kR K) (ks K) (km K) (ka K) (kb K) (kme K) (kc K) H locs cs sl (kQ K) (F0 (km K) pc ls st)
def Cc (K : Kx) (A : Nat → Prop) (cc : ByteArray) (own : String) (n mc ms : Nat) : Prop :=
  (kp K).tables.exec = Jvm.exec ∧ (kc K).code = cc ∧ (kc K).maxLocals = kn K ∧ (ks K).vm.findClass own = some (km K).cls ∧ (∀ w ∈ mB, w.before (ka K) (ks K) = true) ∧ va_K (kD K) vwCl (mty (kcy K)) (ks K) ∧ (∀ q : Nat, (ks K).heap.size ≤ q → A q) ∧ mT A (ks K) ∧ rmLe n mc ms (kR K) ∧ mO (ks K)
def Pk (D : va_G) (cy : Nat → ClassId) (w0 : va_W) (sz : Nat) (U : State) : Prop := U.heap.size = sz ∧ va_P D vwCl w0 U.heap ∧ va_K D vwCl (mty cy) U ∧ mT (va_A w0 sz) U ∧ va_D (fun _ => True) w0 ∧ mO U
def Qk (D : va_G) (w0 : va_W) (sz : Nat) (post : va_W → Prop) : Array Value → State → Outcome → State → Prop := fun _ st oc t => oc = .returned none ∧ (∃ w1, post w1 ∧ va_P D vwCl w1 t.heap ∧ va_D (va_A w0 sz) w1) ∧ va_F (va_A w0 sz) st t
def MetC (l : Launch) (D : va_G) (cy : Nat → ClassId) (y : MethodName) (cc : ByteArray) (maxL n mc ms : Nat) (av : List Value) (w0 : va_W) (post : va_W → Prop) : Prop :=
  ∀ sz : Nat, Met l y (.code y cc maxL none :: mB) (rmC n mc ms) (va_Pc av (Pk D cy w0 sz)) (Qk D w0 sz post) mc ms (va_A w0 sz)
def Rc (K : Kx) (A : Nat → Prop) (w0 : va_W) (sz mc ms : Nat) (post : va_W → Prop) : Prop :=
  (kme K).sig.returnType = none ∧ (kme K).locks = false ∧ kQ K = MQ (kb K) (Qk (kD K) w0 sz post) (ka K) (ks K) mc ms (va_A w0 sz) ∧ A = va_A w0 sz
theorem mT_narrow {A B : Nat → Prop} {U : State} (hAB : ∀ q, B q → A q) (h : mT A U) : mT B U := by
  obtain ⟨h1, h2, t, h3, h4⟩ := h
  exact ⟨h1, h2, t, h3.narrow hAB, h4.narrow hAB⟩
theorem Pk_blind {D : va_G} {cy : Nat → ClassId} {w0 : va_W} {sz : Nat} {av : List Value} : FrameBlind (va_Pc av (Pk D cy w0 sz)) := by
  intro a U g mk h
  obtain ⟨e, h0, h1, h2, h3, h4⟩ := h
  exact ⟨e, h0, h1, va_K.moved (u := U) (U := U.calling g mk a) (Vm.Alike.refl U.vm) h2, mT_same (s := U) (U := U.calling g mk a) rfl rfl h3, h4.1, mO_moved (s := U) (U := U.calling g mk a) (Vm.Alike.refl U.vm) h4.2⟩
theorem MetC.of {l : Launch} {D : va_G} {cy : Nat → ClassId} {y : MethodName} {cc : ByteArray} {maxL n mc ms : Nat} {av : List Value} {w0 : va_W} {post : va_W → Prop} (hy : plainName y.cls = true) (hyn : y.name = "<init>") (lv0 : List (Nat × Value)) (hlv : lv_args 0 av = lv0) (hle : (lg_sl av).length ≤ maxL)
    (body : ∀ (K : Kx) (A : Nat → Prop) (sz : Nat), kl K = l → kD K = D → kcy K = cy → kn K = maxL → (kme K).name = "<init>" → Cc K A cc y.cls n mc ms → Rc K A w0 sz mc ms post → Wc K A w0 0 0 0 lv0 []) : MetC l D cy y cc maxL n mc ms av w0 post := by
  intro sz
  refine Met.ofW (cc := cc) (maxL := maxL) (ret := none) hy rfl ?_
  intro p e s m args below meth c s₁ B hml hv
  obtain ⟨rfl, hsz, hP, hK, hT, hD, hO⟩ := hv
  subst hsz
  have hts := atoms_spec (ws := .code y cc maxL none :: mB) B.pre
  have hown : s.vm.findClass y.cls = some m.cls := findClass_of_methodNamed B.named
  have hin : meth.name = "<init>" := (name_of_methodNamed B.named B.method).1.trans hyn
  have hl := lv_entry av (n := maxL) hle
  rw [lg_entry_eq]
  generalize (lg_sl av ++ List.replicate (maxL - (lg_sl av).length) Slot.unset).toArray = ls at hl ⊢
  rw [hlv] at hl
  exact body (p, l, e, rmC n mc ms, s, m, av.toArray, below, meth, c, maxL, D, (fun _ => 0), cy, MQ below (Qk D w0 s.heap.size post) av.toArray s mc ms (va_A w0 s.heap.size)) (va_A w0 s.heap.size) s.heap.size rfl rfl rfl rfl hin
    ⟨B.exec, B.bytes, hml, hown, fun w h => hts w (List.mem_cons_of_mem _ h), hK, fun q h => Or.inr h, hT, ⟨Nat.le_refl _, Nat.le_refl _, Nat.le_refl _, Nat.le_refl _⟩, hO⟩ ⟨B.returns, B.notSynchronized, rfl, rfl⟩ s.heap [] ls hP hD.self va_S.rf hl
theorem fm_of {α β : Type} {f : α → Option β} : ∀ {l : List α} {r : List β}, l.map f = r.map some → l.filterMap f = r
  | [], [], _ => rfl
  | [], _ :: _, h => by cases h
  | _ :: _, [], h => by cases h
  | a :: l, b :: r, h => by
    simp only [List.map_cons, List.cons.injEq] at h
    rw [List.filterMap_cons, h.1, fm_of h.2]
/-- an array's class is the one that the tables have -/
theorem cy_same {D : va_G} {cl : List vw_C} {tys : List (ClassId × FieldType)} {s : State} {cA cB : ClassId} {ty : FieldType} (t0 : Nat) (h : va_K D cl (tys ++ [(cA, ty)]) s) (ht : tys[t0]? = some (cB, ty)) : cA = cB := by
  have h1 := (h.2 tys.length (cA, ty) (by simp)).2
  have h2 := (h.2 t0 (cB, ty) (by rw [List.getElem?_append_left (List.getElem?_eq_some_iff.mp ht).1]; exact ht)).2
  cases ty with
  | object C =>
    obtain ⟨_, _, -, -, -, h3⟩ := h1
    obtain ⟨_, _, -, -, -, h4⟩ := h2
    exact Option.some.inj (h3.symm.trans h4)
  | _ => exact Option.some.inj (h1.symm.trans h2)
section KR
variable {K : Kx} {A : Nat → Prop} {ws : va_W} {cs sl : Nat} {cc : ByteArray} {own : String} {n mc ms : Nat} {pc : Nat} {lv lv' : List (Nat × Value)} {st rest : List Value}
theorem k_lv (ps : List Nat) (h : lv_pick lv ps = lv') (kk : Wc K A ws cs sl pc lv' st) : Wc K A ws cs sl pc lv st := fun H locs ls hP hD hS hl => kk H locs ls hP hD hS (lv_sub hl ps h)
theorem k_iconst (C : Cc K A cc own n mc ms) {i : Int} {v : Int32} (d : decode cc pc = .ok (.iconst i, 1)) (hv : Int32.ofInt i = v) (kk : Wc K A ws cs sl (pc + 1) lv (.int v :: st)) : Wc K A ws cs sl pc lv st := fun H locs ls hP hD hS hl => lv_iconst C.1 C.2.1 d hv (kk H locs ls hP hD hS hl)
theorem k_bipush (C : Cc K A cc own n mc ms) {i : Int} {v : Int32} (d : decode cc pc = .ok (.bipush i, 2)) (hv : (Int8.ofInt i).toInt32 = v) (kk : Wc K A ws cs sl (pc + 2) lv (.int v :: st)) : Wc K A ws cs sl pc lv st := fun H locs ls hP hD hS hl => lv_bipush C.1 C.2.1 d hv (kk H locs ls hP hD hS hl)
theorem k_sipush (C : Cc K A cc own n mc ms) {i : Int} {v : Int32} (d : decode cc pc = .ok (.sipush i, 3)) (hv : (Int16.ofInt i).toInt32 = v) (kk : Wc K A ws cs sl (pc + 3) lv (.int v :: st)) : Wc K A ws cs sl pc lv st := fun H locs ls hP hD hS hl => lv_sipush C.1 C.2.1 d hv (kk H locs ls hP hD hS hl)
theorem k_lconst (C : Cc K A cc own n mc ms) {i : Fin 2} {v : Int64} (d : decode cc pc = .ok (.lconst i, 1)) (hv : Int64.ofNat (i : Nat) = v) (kk : Wc K A ws cs sl (pc + 1) lv (.long v :: st)) : Wc K A ws cs sl pc lv st := fun H locs ls hP hD hS hl => lv_lconst C.1 C.2.1 d hv (kk H locs ls hP hD hS hl)
theorem k_iload (C : Cc K A cc own n mc ms) {i : Nat} {x : Int32} (j : Nat) (d : decode cc pc = .ok (.iload i, 2)) (h : lv[j]? = some (i, .int x)) (kk : Wc K A ws cs sl (pc + 2) lv (.int x :: st)) : Wc K A ws cs sl pc lv st := fun H locs ls hP hD hS hl => lv_iload C.1 C.2.1 d (lv_at hl j h) (kk H locs ls hP hD hS hl)
theorem k_aload (C : Cc K A cc own n mc ms) {i : Nat} {x : Nat} (j : Nat) (d : decode cc pc = .ok (.aload i, 2)) (h : lv[j]? = some (i, .ref x)) (kk : Wc K A ws cs sl (pc + 2) lv (.ref x :: st)) : Wc K A ws cs sl pc lv st := fun H locs ls hP hD hS hl => lv_aload C.1 C.2.1 d (lv_at hl j h) (kk H locs ls hP hD hS hl)
theorem k_iload_n (C : Cc K A cc own n mc ms) {i : Fin 4} {x : Int32} (j : Nat) (d : decode cc pc = .ok (.iload_n i, 1)) (h : lv[j]? = some ((i : Nat), .int x)) (kk : Wc K A ws cs sl (pc + 1) lv (.int x :: st)) : Wc K A ws cs sl pc lv st := fun H locs ls hP hD hS hl => lv_iload_n C.1 C.2.1 d rfl (lv_at hl j h) (kk H locs ls hP hD hS hl)
theorem k_aload_n (C : Cc K A cc own n mc ms) {i : Fin 4} {x : Nat} (j : Nat) (d : decode cc pc = .ok (.aload_n i, 1)) (h : lv[j]? = some ((i : Nat), .ref x)) (kk : Wc K A ws cs sl (pc + 1) lv (.ref x :: st)) : Wc K A ws cs sl pc lv st := fun H locs ls hP hD hS hl => lv_aload_n C.1 C.2.1 d rfl (lv_at hl j h) (kk H locs ls hP hD hS hl)
theorem k_istore (C : Cc K A cc own n mc ms) {i : Nat} {x : Int32} (d : decode cc pc = .ok (.istore i, 2)) (hn : i < kn K) (h : (i, Value.int x) :: lv.filter (fun q => !(q.1 == i) && !(q.1 + 1 == i && q.2.category == 2)) = lv') (kk : Wc K A ws cs sl (pc + 2) lv' st) : Wc K A ws cs sl pc lv (.int x :: st) := fun H locs ls hP hD hS hl => lv_istore C.1 C.2.1 d hl hn h (fun ls hl => kk H locs ls hP hD hS hl)
theorem k_istore_n (C : Cc K A cc own n mc ms) {i : Fin 4} {x : Int32} (d : decode cc pc = .ok (.istore_n i, 1)) (hn : (i : Nat) < kn K) (h : ((i : Nat), Value.int x) :: lv.filter (fun q => !(q.1 == (i : Nat)) && !(q.1 + 1 == (i : Nat) && q.2.category == 2)) = lv') (kk : Wc K A ws cs sl (pc + 1) lv' st) : Wc K A ws cs sl pc lv (.int x :: st) := fun H locs ls hP hD hS hl => lv_istore_n C.1 C.2.1 d rfl hl hn h (fun ls hl => kk H locs ls hP hD hS hl)
theorem k_astore_n (C : Cc K A cc own n mc ms) {i : Fin 4} {x : Nat} (d : decode cc pc = .ok (.astore_n i, 1)) (hn : (i : Nat) < kn K) (h : ((i : Nat), Value.ref x) :: lv.filter (fun q => !(q.1 == (i : Nat)) && !(q.1 + 1 == (i : Nat) && q.2.category == 2)) = lv') (kk : Wc K A ws cs sl (pc + 1) lv' st) : Wc K A ws cs sl pc lv (.ref x :: st) := fun H locs ls hP hD hS hl => lv_astore_n C.1 C.2.1 d rfl hl hn h (fun ls hl => kk H locs ls hP hD hS hl)
theorem k_iinc (C : Cc K A cc own n mc ms) {i : Nat} {z : Int} {x v : Int32} (j : Nat) (d : decode cc pc = .ok (.iinc i z, 3)) (hk : lv[j]? = some (i, .int x)) (hv : x + Int32.ofInt z = v) (hn : i < kn K) (h : (i, Value.int v) :: lv.filter (fun q => !(q.1 == i) && !(q.1 + 1 == i && q.2.category == 2)) = lv') (kk : Wc K A ws cs sl (pc + 3) lv' st) : Wc K A ws cs sl pc lv st := fun H locs ls hP hD hS hl => lv_iinc C.1 C.2.1 d hl hk hv hn h (fun ls hl => kk H locs ls hP hD hS hl)
theorem k_dup (C : Cc K A cc own n mc ms) {a : Value} (d : decode cc pc = .ok (.dup, 1)) (h : a.category = 1) (kk : Wc K A ws cs sl (pc + 1) lv (a :: a :: st)) : Wc K A ws cs sl pc lv (a :: st) := fun H locs ls hP hD hS hl => lv_dup C.1 C.2.1 d h (kk H locs ls hP hD hS hl)
theorem k_iadd (C : Cc K A cc own n mc ms) {x y : Int32} (d : decode cc pc = .ok (.iadd, 1)) (kk : Wc K A ws cs sl (pc + 1) lv (.int (x + y) :: st)) : Wc K A ws cs sl pc lv (.int y :: .int x :: st) := fun H locs ls hP hD hS hl => lv_iadd C.1 C.2.1 d (kk H locs ls hP hD hS hl)
theorem k_goto (C : Cc K A cc own n mc ms) {off : Int} (tgt : Nat) (d : decode cc pc = .ok (.goto off, 3)) (ht : (pc : Int) + off = (tgt : Int)) (kk : Wc K A ws cs sl tgt lv st) : Wc K A ws cs sl pc lv st := fun H locs ls hP hD hS hl => lv_goto C.1 C.2.1 d ht (kk H locs ls hP hD hS hl)
theorem k_icmpge (C : Cc K A cc own n mc ms) {x y : Int32} {off : Int} (tgt : Nat) (d : decode cc pc = .ok (.if_icmp .ge off, 3)) (ht : (pc : Int) + off = (tgt : Int)) (kt : y ≤ x → Wc K A ws cs sl tgt lv st) (kf : ¬ y ≤ x → Wc K A ws cs sl (pc + 3) lv st) : Wc K A ws cs sl pc lv (.int y :: .int x :: st) := fun H locs ls hP hD hS hl => lv_icmp_ge C.1 C.2.1 d ht (fun h => kt h H locs ls hP hD hS hl) (fun h => kf h H locs ls hP hD hS hl)
theorem k_icmpgt (C : Cc K A cc own n mc ms) {x y : Int32} {off : Int} (tgt : Nat) (d : decode cc pc = .ok (.if_icmp .gt off, 3)) (ht : (pc : Int) + off = (tgt : Int)) (kt : y < x → Wc K A ws cs sl tgt lv st) (kf : ¬ y < x → Wc K A ws cs sl (pc + 3) lv st) : Wc K A ws cs sl pc lv (.int y :: .int x :: st) := fun H locs ls hP hD hS hl => lv_icmp_gt C.1 C.2.1 d ht (fun h => kt h H locs ls hP hD hS hl) (fun h => kf h H locs ls hP hD hS hl)
theorem k_objInit (C : Cc K A cc own n mc ms) {a i : Nat} (w1 : Cond.methodLink own i objectInit ∈ mB) (w2 : Cond.instanceMethod objectInit ∈ mB) (w3 : Cond.code objectInit ⟨#[0xb1]⟩ 1 none ∈ mB) (hn : 1 ≤ n) (hr : (st.map fun v => v.category).sum ≤ 8) (d : decode cc pc = .ok (.invokespecial i, 3)) (kk : Wc K A ws cs sl (pc + 3) lv st) : Wc K A ws cs sl pc lv (.ref a :: st) := by
  intro H locs ls hP hD hS hl
  have hf9 : 1 ≤ (kR K).frames := Nat.le_trans hn C.2.2.2.2.2.2.2.2.1.1
  have hl9 : 2 * (F0 (km K) pc ls (.ref a :: st)).monitorRoom + (st.map fun v => v.category).sum + 12 ≤ (kR K).locals := by
    refine Nat.le_trans ?_ C.2.2.2.2.2.2.2.2.1.2.2.2
    show 2 * 0 + _ + 12 ≤ 50 * n
    generalize (List.map (fun v => v.category) st).sum = z8 at hr ⊢
    omega
  exact W.objInit C.1 C.2.1 C.2.2.2.1 (C.2.2.2.2.1 _ w1) (C.2.2.2.2.1 _ w2) (C.2.2.2.2.1 _ w3) rfl (hl.1.trans C.2.2.1.symm) rfl d hf9 hl9 (kk H locs ls hP hD hS hl)
theorem k_new (C : Cc K A cc own n mc ms) {i ci : Nat} {q : vw_C} {fs : List Value} (ty : Nat → FieldType) (hty : ∀ k, k < q.2.2 → parseFieldDescriptor (q.2.1 k).2.2.1 = some (ty k)) (hc : vwCl[ci]? = some q) (hin : ∀ w ∈ u_ws q.1 q.2.1 q.2.2, w ∈ mB) (w1 : Cond.classLink own i q.1 ∈ mB) (w2 : Cond.instantiable q.1 q.2.2 ∈ mB) (w3 : Cond.initialized q.1 ∈ mB) (hfs : ∀ j, j < q.2.2 → defaultValue (ty j) = vp_V fs j) (h1 : cs + 1 ≤ mc) (h2 : sl + q.2.2 ≤ ms) (d : decode cc pc = .ok (.new i, 3)) (kk : ∀ a : Nat, Wc K A (ws ++ [(a, .inr (ci, fs))]) (cs + 1) (sl + q.2.2) (pc + 3) lv (.ref a :: st)) : Wc K A ws cs sl pc lv st := by
  intro H locs ls hP hD hS hl
  exact va_new C.1 C.2.1 C.2.2.2.2.1 hin ty hty C.2.2.2.1 (C.2.2.2.2.1 _ w1) (C.2.2.2.2.1 _ w2) (C.2.2.2.2.1 _ w3) C.2.2.2.2.2.1 hP hD hS C.2.2.2.2.2.2.1 hc hfs (Nat.le_trans h1 C.2.2.2.2.2.2.2.2.1.2.1) (Nat.le_trans h2 C.2.2.2.2.2.2.2.2.1.2.2.1) d (fun a H1 hP1 hD1 hS1 => kk a H1 locs ls hP1 hD1 hS1 hl)
theorem k_newi (C : Cc K A cc own n mc ms) {N : Nat} {z : Int32} (w1 : Cond.arrayClass .int ∈ mB) (hz : ¬ z < 0) (hN : z.toNatClampNeg = N) (hb : N * 4 ≤ 536870912) (h1 : cs + 1 ≤ mc) (h2 : sl + N ≤ ms) (d : decode cc pc = .ok (.newarray .int, 2)) (kk : ∀ a : Nat, Wc K A (ws ++ [(a, .inl (kcy K 0, N, .inl (fun _ => 0)))]) (cs + 1) (sl + N) (pc + 2) lv (.ref a :: st)) : Wc K A ws cs sl pc lv (.int z :: st) := by
  intro H locs ls hP hD hS hl
  refine va_newa (atype := .int) C.1 C.2.1 (C.2.2.2.2.1 _ w1) (ty := .int) rfl C.2.2.2.2.2.1 hP hD hS C.2.2.2.2.2.2.1 (a0 := (N, .inl (fun _ => 0))) (fun cA => rfl) hz hN hb (Nat.le_trans h1 C.2.2.2.2.2.2.2.2.1.2.1) (Nat.le_trans h2 C.2.2.2.2.2.2.2.2.1.2.2.1) d (fun a cA H1 hK1 hP1 hD1 hS1 => ?_)
  have e := cy_same 0 hK1 rfl
  subst e
  exact kk a H1 locs ls hP1 hD1 hS1 hl
theorem k_newb (C : Cc K A cc own n mc ms) {N : Nat} {z : Int32} (w1 : Cond.arrayClass .byte ∈ mB) (hz : ¬ z < 0) (hN : z.toNatClampNeg = N) (hb : N * 1 ≤ 536870912) (h1 : cs + 1 ≤ mc) (h2 : sl + N ≤ ms) (d : decode cc pc = .ok (.newarray .byte, 2)) (kk : ∀ a : Nat, Wc K A (ws ++ [(a, .inl (kcy K 1, N, .inl (fun _ => 0)))]) (cs + 1) (sl + N) (pc + 2) lv (.ref a :: st)) : Wc K A ws cs sl pc lv (.int z :: st) := by
  intro H locs ls hP hD hS hl
  refine va_newa (atype := .byte) C.1 C.2.1 (C.2.2.2.2.1 _ w1) (ty := .byte) rfl C.2.2.2.2.2.1 hP hD hS C.2.2.2.2.2.2.1 (a0 := (N, .inl (fun _ => 0))) (fun cA => rfl) hz hN hb (Nat.le_trans h1 C.2.2.2.2.2.2.2.2.1.2.1) (Nat.le_trans h2 C.2.2.2.2.2.2.2.2.1.2.2.1) d (fun a cA H1 hK1 hP1 hD1 hS1 => ?_)
  have e := cy_same 1 hK1 rfl
  subst e
  exact kk a H1 locs ls hP1 hD1 hS1 hl
theorem k_putF (C : Cc K A cc own n mc ms) {a ci j i : Nat} {q : vw_C} {fs : List Value} {v : Value} {ty : FieldType} (p : Nat) (ty0 : Nat → FieldType) (hty : ∀ k, k < q.2.2 → parseFieldDescriptor (q.2.1 k).2.2.1 = some (ty0 k)) (hnm : ∀ a, a < q.2.2 → ∀ b, b < q.2.2 → a ≠ b → (q.2.1 a).2.1 ≠ (q.2.1 b).2.1) (he : ws[p]? = some (a, .inr (ci, fs))) (hc : vwCl[ci]? = some q) (hin : ∀ w ∈ u_ws q.1 q.2.1 q.2.2, w ∈ mB) (hj : j < q.2.2) (hl : Cond.fieldLink own i (q.2.1 j).1 (q.2.1 j).2.1 (q.2.1 j).2.2.1 ∈ mB) (hfin : (q.2.1 j).2.2.2 = true) (hin2 : (kme K).name = "<init>") (hdecl : (q.2.1 j).1 = own) (hd : parseFieldDescriptor (q.2.1 j).2.2.1 = some ty) (hn : narrow ty v = v) (hfit : fits ty v = true) (hlen : j < fs.length) (d : decode cc pc = .ok (.putfield i, 3)) (kk : Wc K A (ws.set p (a, .inr (ci, fs.set j v))) cs sl (pc + 3) lv st) : Wc K A ws cs sl pc lv (v :: .ref a :: st) := by
  intro H locs ls hP hD hS hl2
  exact va_putF C.1 C.2.1 C.2.2.2.2.1 hin ty0 hty hnm C.2.2.2.1 C.2.2.2.2.2.1 hP hD hS p he hc j hj (C.2.2.2.2.1 _ hl) (fun _ h => h) hfin hin2 hdecl hd hn hfit hlen d (fun H1 locs1 hP1 hD1 hS1 => kk H1 locs1 ls hP1 hD1 hS1 hl2)
theorem k_putV (C : Cc K A cc own n mc ms) {a ci j i : Nat} {q : vw_C} {fs : List Value} {v : Value} {ty : FieldType} (p : Nat) (ty0 : Nat → FieldType) (hty : ∀ k, k < q.2.2 → parseFieldDescriptor (q.2.1 k).2.2.1 = some (ty0 k)) (hnm : ∀ a, a < q.2.2 → ∀ b, b < q.2.2 → a ≠ b → (q.2.1 a).2.1 ≠ (q.2.1 b).2.1) (he : ws[p]? = some (a, .inr (ci, fs))) (hc : vwCl[ci]? = some q) (hin : ∀ w ∈ u_ws q.1 q.2.1 q.2.2, w ∈ mB) (hj : j < q.2.2) (hl : Cond.fieldLink own i (q.2.1 j).1 (q.2.1 j).2.1 (q.2.1 j).2.2.1 ∈ mB) (hfin : (q.2.1 j).2.2.2 = false) (hd : parseFieldDescriptor (q.2.1 j).2.2.1 = some ty) (hn : narrow ty v = v) (hfit : fits ty v = true) (hlen : j < fs.length) (d : decode cc pc = .ok (.putfield i, 3)) (kk : Wc K A (ws.set p (a, .inr (ci, fs.set j v))) cs sl (pc + 3) lv st) : Wc K A ws cs sl pc lv (v :: .ref a :: st) := by
  intro H locs ls hP hD hS hl2
  exact va_put C.1 C.2.1 C.2.2.2.2.1 hin ty0 hty hnm C.2.2.2.1 C.2.2.2.2.2.1 hP hD hS p he hc j hj (C.2.2.2.2.1 _ hl) (fun _ h => h) hfin hd hn hfit hlen d (fun H1 locs1 hP1 hD1 hS1 => kk H1 locs1 ls hP1 hD1 hS1 hl2)
theorem k_putVN (C : Cc K A cc own n mc ms) {host : String} {a ci j i : Nat} {q : vw_C} {fs : List Value} {v : Value} {ty : FieldType} (p : Nat) (ty0 : Nat → FieldType) (hty : ∀ k, k < q.2.2 → parseFieldDescriptor (q.2.1 k).2.2.1 = some (ty0 k)) (hnm : ∀ a, a < q.2.2 → ∀ b, b < q.2.2 → a ≠ b → (q.2.1 a).2.1 ≠ (q.2.1 b).2.1) (he : ws[p]? = some (a, .inr (ci, fs))) (hc : vwCl[ci]? = some q) (hin : ∀ w ∈ u_ws q.1 q.2.1 q.2.2, w ∈ mB) (hj : j < q.2.2) (hl : Cond.fieldLinkNest own i (q.2.1 j).1 (q.2.1 j).2.1 (q.2.1 j).2.2.1 host ∈ mNs) (hfin : (q.2.1 j).2.2.2 = false) (hd : parseFieldDescriptor (q.2.1 j).2.2.1 = some ty) (hn : narrow ty v = v) (hfit : fits ty v = true) (hlen : j < fs.length) (d : decode cc pc = .ok (.putfield i, 3)) (kk : Wc K A (ws.set p (a, .inr (ci, fs.set j v))) cs sl (pc + 3) lv st) : Wc K A ws cs sl pc lv (v :: .ref a :: st) := by
  intro H locs ls hP hD hS hl2
  exact va_putN C.1 C.2.1 C.2.2.2.2.1 hin ty0 hty hnm C.2.2.2.1 C.2.2.2.2.2.1 hP hD hS p he hc j hj (va_Nw.use rfl (C.2.2.2.2.2.2.2.1.1 _ hl)) (fun _ h => h) hfin hd hn hfit hlen d (fun H1 locs1 hP1 hD1 hS1 => kk H1 locs1 ls hP1 hD1 hS1 hl2)
theorem k_get (C : Cc K A cc own n mc ms) {a ci j i : Nat} {q : vw_C} {fs : List Value} {v : Value} (p : Nat) (he : ws[p]? = some (a, .inr (ci, fs))) (hc : vwCl[ci]? = some q) (hin : ∀ w ∈ u_ws q.1 q.2.1 q.2.2, w ∈ mB) (hj : j < q.2.2) (hl : Cond.fieldLink own i (q.2.1 j).1 (q.2.1 j).2.1 (q.2.1 j).2.2.1 ∈ mB) (hv : fs[j]? = some v) (d : decode cc pc = .ok (.getfield i, 3)) (kk : Wc K A ws cs sl (pc + 3) lv (v :: st)) : Wc K A ws cs sl pc lv (.ref a :: st) := by
  intro H locs ls hP hD hS hl2
  exact va_get C.1 C.2.1 C.2.2.2.2.1 hin C.2.2.2.1 C.2.2.2.2.2.1 hP p he hc j hj (C.2.2.2.2.1 _ hl) (fun _ h => h) hv d (kk H locs ls hP hD hS hl2)
theorem k_iast (C : Cc K A cc own n mc ms) {a z : Nat} {f : Nat → Int32} {i x : Int32} (p : Nat) (he : ws[p]? = some (a, .inl (kcy K 0, z, .inl f))) (hi : vp_in i z) (d : decode cc pc = .ok (.iastore, 1)) (kk : Wc K A (ws.set p (a, .inl (kcy K 0, z, .inl (upd f i.toNatClampNeg x)))) cs sl (pc + 1) lv st) : Wc K A ws cs sl pc lv (.int x :: .int i :: .ref a :: st) := by
  intro H locs ls hP hD hS hl2
  exact va_iast C.1 C.2.1 C.2.2.2.2.2.1 hP hD hS p 0 he rfl hi d (fun H1 locs1 hP1 hD1 hS1 => kk H1 locs1 ls hP1 hD1 hS1 hl2)
theorem k_aald (C : Cc K A cc own n mc ms) {a b z : Nat} {t : Nat} {f : Nat → Option Nat} {i : Int32} {ty : FieldType} (p : Nat) (he : ws[p]? = some (a, .inl (kcy K t, z, .inr (.inr (.inr (.inr f)))))) (ht : (mty (kcy K))[t]? = some (kcy K t, ty)) (hr : ty.isReference = true) (hi : vp_in i z) (hv : f i.toNatClampNeg = some b) (d : decode cc pc = .ok (.aaload, 1)) (kk : Wc K A ws cs sl (pc + 1) lv (.ref b :: st)) : Wc K A ws cs sl pc lv (.int i :: .ref a :: st) := by
  intro H locs ls hP hD hS hl2
  have hlt : i.toNatClampNeg < z := Nat.not_le.mp fun q => hi (Or.inr q)
  exact W.aald (v := .ref b) (ty := ty) C.1 C.2.1 (hP p _ he) ((C.2.2.2.2.2.1.2 t _ ht).1 z (fun j => va_rf (f j))) hr (fun q => by cases q) (by show ¬ (i < 0 ∨ (arrV _ _ _).slots.size ≤ _); rw [arrV_size]; exact hi) (by show (arrV _ _ _).slots[_]? = _; rw [arrV_read _ _ hlt, hv]; rfl) rfl rfl d (kk H locs ls hP hD hS hl2)
theorem k_newq (C : Cc K A cc own n mc ms) {E : String} {i N : Nat} {z : Int32} (t : Nat) (ht : (mty (kcy K))[t]? = some (kcy K t, .object E)) (w1 : Cond.classLink own i E ∈ mB) (w2 : va_AO E (ks K)) (hz : ¬ z < 0) (hN : z.toNatClampNeg = N) (hb : N * 4 ≤ 536870912) (h1 : cs + 1 ≤ mc) (h2 : sl + N ≤ ms) (d : decode cc pc = .ok (.anewarray i, 3)) (kk : ∀ a : Nat, Wc K A (ws ++ [(a, .inl (kcy K t, N, .inr (.inr (.inr (.inr (fun _ => none))))))]) (cs + 1) (sl + N) (pc + 3) lv (.ref a :: st)) : Wc K A ws cs sl pc lv (.int z :: st) := by
  intro H locs ls hP hD hS hl
  refine va_newq C.1 C.2.1 C.2.2.2.1 (C.2.2.2.2.1 _ w1) w2 C.2.2.2.2.2.1 hP hD hS C.2.2.2.2.2.2.1 hz hN hb (Nat.le_trans h1 C.2.2.2.2.2.2.2.2.1.2.1) (Nat.le_trans h2 C.2.2.2.2.2.2.2.2.1.2.2.1) d (fun a cA H1 hK1 hP1 hD1 hS1 => ?_)
  have e := cy_same t hK1 ht
  subst e
  exact kk a H1 locs ls hP1 hD1 hS1 hl
theorem k_astq (C : Cc K A cc own n mc ms) {a v z ci t : Nat} {q : vw_C} {vs : List Value} {f : Nat → Option Nat} {i : Int32} (p pk : Nat) (he : ws[p]? = some (a, .inl (kcy K t, z, .inr (.inr (.inr (.inr f)))))) (ht : (mty (kcy K))[t]? = some (kcy K t, .object q.1)) (hv : ws[pk]? = some (v, .inr (ci, vs))) (hc : vwCl[ci]? = some q) (hi : vp_in i z) (d : decode cc pc = .ok (.aastore, 1)) (kk : Wc K A (ws.set p (a, .inl (kcy K t, z, .inr (.inr (.inr (.inr (va_up f i.toNatClampNeg (some v)))))))) cs sl (pc + 1) lv st) : Wc K A ws cs sl pc lv (.ref v :: .int i :: .ref a :: st) := by
  intro H locs ls hP hD hS hl2
  exact va_astq C.1 C.2.1 C.2.2.2.2.2.1 hP hD hS p t pk ci he ht hv hc hi d (fun H1 locs1 hP1 hD1 hS1 => kk H1 locs1 ls hP1 hD1 hS1 hl2)
theorem k_astqO (C : Cc K A cc own n mc ms) {E : String} {a v z ci t : Nat} {q : vw_C} {vs : List Value} {f : Nat → Option Nat} {i : Int32} (p pk : Nat) (he : ws[p]? = some (a, .inl (kcy K t, z, .inr (.inr (.inr (.inr f)))))) (ht : (mty (kcy K))[t]? = some (kcy K t, .object E)) (hca : Cond.castable q.1 E ∈ mNs) (hv : ws[pk]? = some (v, .inr (ci, vs))) (hc : vwCl[ci]? = some q) (hi : vp_in i z) (d : decode cc pc = .ok (.aastore, 1)) (kk : Wc K A (ws.set p (a, .inl (kcy K t, z, .inr (.inr (.inr (.inr (va_up f i.toNatClampNeg (some v)))))))) cs sl (pc + 1) lv st) : Wc K A ws cs sl pc lv (.ref v :: .int i :: .ref a :: st) := by
  intro H locs ls hP hD hS hl2
  exact va_astqO C.1 C.2.1 C.2.2.2.2.2.1 hP hD hS p t pk ci he ht (C.2.2.2.2.2.2.2.1.1 _ hca) hv hc hi d (fun H1 locs1 hP1 hD1 hS1 => kk H1 locs1 ls hP1 hD1 hS1 hl2)
theorem k_vret (C : Cc K A cc own n mc ms) {w0 : va_W} {sz : Nat} {post : va_W → Prop} (R : Rc K A w0 sz mc ms post) (hp : post ws) (h1 : cs ≤ mc) (h2 : sl ≤ ms) (d : decode cc pc = .ok (.return_, 1)) : Wc K A ws cs sl pc lv [] := by
  intro H locs ls hP hD hS hl2
  rw [R.2.2.1]
  rw [R.2.2.2] at hD hS
  exact W.widen h1 h2 (W.vret C.1 C.2.1 R.1 (fun t ht _ => ⟨rfl, ⟨ws, hp, by rw [ht]; exact hP, hD⟩, hS.F ht⟩) hS.2.2 d R.2.1)
theorem k_mna (C : Cc K A cc own n mc ms) {i N M t u : Nat} {z y : Int32} {ty : FieldType} {g : vp_A} (ht : (mty (kcy K))[t]? = some (kcy K t, .array ty)) (hu : (mty (kcy K))[u]? = some (kcy K u, ty)) (w1 : Cond.classLink own i ("[" ++ (FieldType.array ty).toString) ∈ mB) (w2 : FieldType.array ty ∈ mOs) (w3 : Cond.arrayClass ty ∈ mB) (hra : va_RA (ks K) (kcy K u) ty = ((ks K).vm.findClass ("[" ++ ty.toString) = some (kcy K u))) (hts : (FieldType.array ty).toString = "[" ++ ty.toString) (hz : ¬ z < 0) (hy : ¬ y < 0) (hN : z.toNatClampNeg = N) (hM : y.toNatClampNeg = M) (hb1 : N * 4 ≤ 536870912) (hb2 : M * componentBytes ty ≤ 536870912) (hb3 : M ≤ 536870912) (hdf : fits ty (defaultValue ty) = true) (hdd : (defaultValue ty).isDefault = true) (h1 : cs + (1 + N) ≤ mc) (h2 : sl + (N + N * M) ≤ ms) (hg : ∀ c : ClassId, Jvm.Free.Multi.innerC c M (defaultValue ty) = vp_cell c g) (d : decode cc pc = .ok (.multianewarray i 2, 4)) (kk : ∀ (a : Nat) (r : Nat → Nat), Wc K A ((ws ++ [(a, .inl (kcy K t, N, .inr (.inr (.inr (.inr (fun i => if i < N then some (r i) else none))))))]) ++ (List.range N).map (fun i => (r i, .inl (kcy K u, g)))) (cs + 1 + N) (sl + N + N * M) (pc + 4) lv (.ref a :: st)) : Wc K A ws cs sl pc lv (.int y :: .int z :: st) := by
  intro H locs ls hP hD hS hl
  have hnil : ws ++ va_pl [] (fun _ => .inr (0, [])) = ws := List.append_nil ws
  have hcy : (ks K).vm.findClass (FieldType.array ty).toString = some (kcy K u) := by
    rw [hts, ← hra]
    exact (C.2.2.2.2.2.1.2 u _ hu).2
  refine va_mna (X := ws) (L := []) (f := fun _ => .inr (0, [])) C.1 C.2.1 C.2.2.2.1 (C.2.2.2.2.1 _ w1) (C.2.2.2.2.2.2.2.2.2 _ w2) (C.2.2.2.2.1 _ w3) hcy C.2.2.2.2.2.1 (by rw [hnil]; exact hP) (by rw [hnil]; exact hD) hS C.2.2.2.2.2.2.1 hz hy hN hM hb1 hb2 hb3 hdf hdd (Nat.le_trans h1 C.2.2.2.2.2.2.2.2.1.2.1) (Nat.le_trans h2 C.2.2.2.2.2.2.2.2.1.2.2.1) hg d (fun a r cA H1 _ _ hK1 hP1 hD1 hS1 => ?_)
  have e := cy_same t hK1 ht
  subst e
  have e2 : va_pl ([] ++ (List.range N).map r) (vr_up (fun _ => .inr (0, [])) ((List.range N).map r) (.inl (kcy K u, g))) = (List.range N).map (fun i => (r i, (.inl (kcy K u, g) : va_E))) := by
    unfold va_pl
    rw [List.nil_append, List.map_map]
    apply List.map_congr_left
    intro j hj
    show (r j, vr_up _ _ _ (r j)) = _
    rw [vr_up_in (List.mem_map.mpr ⟨j, hj, rfl⟩)]
  rw [e2] at hP1 hD1
  exact kk a r H1 locs ls hP1 hD1 hS1 hl
/-- a constructor's call, of a nest mate's private one -/
theorem k_callN (C : Cc K A cc own n mc ms) {host : String} {y : MethodName} {cd : ByteArray} {maxL nc mc1 ms1 ar i b : Nat} {As : List Value} {wc wr : va_W} {post : va_W → Prop} (isC isR : List Nat) (hM : MetC (kl K) (kD K) (kcy K) y cd maxL nc mc1 ms1 (.ref b :: As) wc post) (hy : y.cls ≠ "java/lang/invoke/MethodHandle" ∧ y.cls ≠ "java/lang/invoke/VarHandle" ∧ (parseMethodDescriptor y.desc).map (fun d => d.parameters.length) = some ar) (hyn : y.name = "<init>") (w1 : Cond.methodLinkNest own i y host ∈ mNs) (w2 : Cond.instanceMethod y ∈ mB) (w3 : Cond.initialized y.cls ∈ mB) (w4 : Cond.code y cd maxL none ∈ mB) (hn : nc < n) (hm : maxL ≤ 31) (h1 : cs + mc1 ≤ mc) (h2 : sl + ms1 ≤ ms) (hC : isC.map (fun i => ws[i]?) = wc.map some) (hR : isR.map (fun i => ws[i]?) = wr.map some) (hnC : va_nd isC = true) (hnR : va_nd isR = true) (hdis : ∀ i ∈ isR, i ∉ isC) (ha : As.length = ar) (hst : st = As.reverse ++ .ref b :: rest) (hr : (rest.map fun v => v.category).sum ≤ 8) (d : decode cc pc = .ok (.invokespecial i, 3)) (kk : ∀ w1, post w1 → Wc K A (wr ++ w1) (cs + mc1) (sl + ms1) (pc + 3) lv rest) : Wc K A ws cs sl pc lv st := by
  intro H locs ls hP hD hS hl T hT X
  have hPc := hP.sub isC (fm_of hC)
  have hDc := hD.sub isC hnC hC
  have hFc := va_free hD hS C.2.2.2.2.2.2.1 isC hC
  have hG : GoodIn mB (.code y cd maxL none :: mB) := mB_in (fun _ h => h) (fun w h => by
    rcases List.mem_cons.mp h with rfl | h
    · exact w4
    · exact h)
  have hroom : (rmC nc mc1 ms1).frames + 1 ≤ (kR K).frames ∧ 8 + (maxL + 11) + (rmC nc mc1 ms1).locals ≤ (kR K).locals := by
    refine ⟨Nat.le_trans hn C.2.2.2.2.2.2.2.2.1.1, Nat.le_trans ?_ C.2.2.2.2.2.2.2.2.1.2.2.2⟩
    show 8 + (maxL + 11) + 50 * nc ≤ 50 * n
    omega
  have hp : PreS (ks K) H (va_Pc (.ref b :: As) (Pk (kD K) (kcy K) wc H.size)) (.ref b :: As) := ⟨Pk_blind, fun U hU hW => ⟨rfl, by rw [hU], by rw [hU]; exact hPc, va_K.moved hW.alike C.2.2.2.2.2.1, mT_narrow hFc (mT_warm hW (fun a h1 h2 => by rw [hU]; exact hS.2.1 a h1 h2) C.2.2.2.2.2.2.2.1), hDc.weaken (fun _ _ _ _ => trivial), mO_moved hW.alike C.2.2.2.2.2.2.2.2.2⟩⟩
  obtain ⟨v', st₀, t, T', L, h0, X', hL, e1, e2, ⟨hv, ⟨w9, hpost, hP1, hD1⟩, hz, hk⟩, sg⟩ := va_runIN (nL := kn K) (b := b) (As := As) (rest := rest) (cells := cs) (slots := sl) (e := ke K) (below := kb K) (meth := kme K) (locs := locs) (g := F0 (km K) pc ls st) ⟨C.1, C.2.1, C.2.2.1, C.2.2.2.1, C.2.2.2.2.1⟩ (hM H.size) ⟨va_cnB ar C.2.2.2.2.1 hG rfl rfl rfl (C.2.2.2.2.2.2.2.1.1 _ w1) (C.2.2.2.2.1 _ w3) hy hroom, hyn, C.2.2.2.2.1 _ w2⟩ hp rfl ha hl.1 hst (lv_room hr) d ⟨Nat.le_trans h1 C.2.2.2.2.2.2.2.2.1.2.1, Nat.le_trans h2 C.2.2.2.2.2.2.2.2.1.2.2.1⟩ T hT X
  cases hv
  rw [h0] at hz hk
  obtain ⟨hP2, hD2⟩ := va_join hP hD isC isR hC hR hnR hdis hk hFc hP1 hD1
  obtain ⟨t2, a1, b1⟩ := kk w9 hpost T'.heap (locs ++ L) ls (by rw [e1]; exact hP2) hD2
    ⟨Nat.le_trans hS.1 (by rw [e1]; exact hz), fun q h1 h2 => by rw [e1, hk q (Nat.lt_of_lt_of_le h1 hS.1) (fun z => h2 (hFc q z))]; exact hS.2.1 q h1 h2, fun q hq => by
      rcases List.mem_append.mp hq with h | h
      · exact hS.2.2 q h
      · exact hFc _ (hL q h)⟩ hl T' rfl X'
  exact ⟨t2, sg t2 a1, b1⟩
/-- a constructor's call, by a link of its own -/
theorem k_callI (C : Cc K A cc own n mc ms) {y : MethodName} {cd : ByteArray} {maxL nc mc1 ms1 ar i b : Nat} {As : List Value} {wc wr : va_W} {post : va_W → Prop} (isC isR : List Nat) (hM : MetC (kl K) (kD K) (kcy K) y cd maxL nc mc1 ms1 (.ref b :: As) wc post) (hy : y.cls ≠ "java/lang/invoke/MethodHandle" ∧ y.cls ≠ "java/lang/invoke/VarHandle" ∧ (parseMethodDescriptor y.desc).map (fun d => d.parameters.length) = some ar) (hyn : y.name = "<init>") (w1 : Cond.methodLink own i y ∈ mB) (w2 : Cond.instanceMethod y ∈ mB) (w3 : Cond.initialized y.cls ∈ mB) (w4 : Cond.code y cd maxL none ∈ mB) (hn : nc < n) (hm : maxL ≤ 31) (h1 : cs + mc1 ≤ mc) (h2 : sl + ms1 ≤ ms) (hC : isC.map (fun i => ws[i]?) = wc.map some) (hR : isR.map (fun i => ws[i]?) = wr.map some) (hnC : va_nd isC = true) (hnR : va_nd isR = true) (hdis : ∀ i ∈ isR, i ∉ isC) (ha : As.length = ar) (hst : st = As.reverse ++ .ref b :: rest) (hr : (rest.map fun v => v.category).sum ≤ 8) (d : decode cc pc = .ok (.invokespecial i, 3)) (kk : ∀ w1, post w1 → Wc K A (wr ++ w1) (cs + mc1) (sl + ms1) (pc + 3) lv rest) : Wc K A ws cs sl pc lv st := by
  intro H locs ls hP hD hS hl T hT X
  have hPc := hP.sub isC (fm_of hC)
  have hDc := hD.sub isC hnC hC
  have hFc := va_free hD hS C.2.2.2.2.2.2.1 isC hC
  have hG : GoodIn mB (.code y cd maxL none :: mB) := mB_in (fun _ h => h) (fun w h => by
    rcases List.mem_cons.mp h with rfl | h
    · exact w4
    · exact h)
  have hroom : (rmC nc mc1 ms1).frames + 1 ≤ (kR K).frames ∧ 8 + (maxL + 11) + (rmC nc mc1 ms1).locals ≤ (kR K).locals := by
    refine ⟨Nat.le_trans hn C.2.2.2.2.2.2.2.2.1.1, Nat.le_trans ?_ C.2.2.2.2.2.2.2.2.1.2.2.2⟩
    show 8 + (maxL + 11) + 50 * nc ≤ 50 * n
    omega
  have hp : PreS (ks K) H (va_Pc (.ref b :: As) (Pk (kD K) (kcy K) wc H.size)) (.ref b :: As) := ⟨Pk_blind, fun U hU hW => ⟨rfl, by rw [hU], by rw [hU]; exact hPc, va_K.moved hW.alike C.2.2.2.2.2.1, mT_narrow hFc (mT_warm hW (fun a h1 h2 => by rw [hU]; exact hS.2.1 a h1 h2) C.2.2.2.2.2.2.2.1), hDc.weaken (fun _ _ _ _ => trivial), mO_moved hW.alike C.2.2.2.2.2.2.2.2.2⟩⟩
  obtain ⟨v', st₀, t, T', L, h0, X', hL, e1, e2, ⟨hv, ⟨w9, hpost, hP1, hD1⟩, hz, hk⟩, sg⟩ := va_runI (nL := kn K) (b := b) (As := As) (rest := rest) (cells := cs) (slots := sl) (e := ke K) (below := kb K) (meth := kme K) (locs := locs) (g := F0 (km K) pc ls st) ⟨C.1, C.2.1, C.2.2.1, C.2.2.2.1, C.2.2.2.2.1⟩ (hM H.size) (cwI ar C.2.2.2.2.1 hG rfl rfl rfl (C.2.2.2.2.1 _ w3) (C.2.2.2.2.1 _ w1) (C.2.2.2.2.1 _ w2) hyn hy hroom) hp rfl ha hl.1 hst (lv_room hr) d ⟨Nat.le_trans h1 C.2.2.2.2.2.2.2.2.1.2.1, Nat.le_trans h2 C.2.2.2.2.2.2.2.2.1.2.2.1⟩ T hT X
  cases hv
  rw [h0] at hz hk
  obtain ⟨hP2, hD2⟩ := va_join hP hD isC isR hC hR hnR hdis hk hFc hP1 hD1
  obtain ⟨t2, a1, b1⟩ := kk w9 hpost T'.heap (locs ++ L) ls (by rw [e1]; exact hP2) hD2
    ⟨Nat.le_trans hS.1 (by rw [e1]; exact hz), fun q h1 h2 => by rw [e1, hk q (Nat.lt_of_lt_of_le h1 hS.1) (fun z => h2 (hFc q z))]; exact hS.2.1 q h1 h2, fun q hq => by
      rcases List.mem_append.mp hq with h | h
      · exact hS.2.2 q h
      · exact hFc _ (hL q h)⟩ hl T' rfl X'
  exact ⟨t2, sg t2 a1, b1⟩
theorem mwo_A {Y : mY} {ad : Nat → Nat} {cy : Nat → ClassId} {σ : mS} {sz q : Nat} (h : mA Y ad q) : va_A (mwo Y ad cy σ) sz q := by
  obtain ⟨k, hk, rfl⟩ := h
  obtain ⟨i, -, he⟩ := mwo_at (ad := ad) (cy := cy) (σ := σ) hk rfl
  exact Or.inl ⟨i, _, he⟩
/-- a static method with a contract over the memory layer, on some of the cells -/
theorem k_callG (C : Cc K A cc own n mc ms) {Y : mY} {ad : Nat → Nat} {σ τ : mS} {y : MethodName} {cd : ByteArray} {maxL nc ar i : Nat} {ret : Option FieldType} {As : List Value} {v : Option Value} {wr : va_W} (isC isR : List Nat) (hJ : mJ Y ad) (hM : MetG (kl K) Y (kD K) ad (kcy K) y cd maxL ret nc As σ v τ) (hy : y.cls ≠ "java/lang/invoke/MethodHandle" ∧ y.cls ≠ "java/lang/invoke/VarHandle" ∧ (parseMethodDescriptor y.desc).map (fun d => d.parameters.length) = some ar) (hw : Cond.methodLink own i y ∈ mB ∧ Cond.static y ∈ mB ∧ Cond.initialized y.cls ∈ mB ∧ Cond.code y cd maxL ret ∈ mB) (hn : nc < n) (hm : maxL ≤ 31) (h1 : cs ≤ mc) (h2 : sl ≤ ms) (hC : isC.map (fun i => ws[i]?) = (mwo Y ad (kcy K) σ).map some) (hR : isR.map (fun i => ws[i]?) = wr.map some) (hnR : va_nd isR = true) (hdis : ∀ i ∈ isR, i ∉ isC) (ha : As.length = ar) (hst : st = As.reverse ++ rest) (hr : (rest.map fun v => v.category).sum ≤ 8) (d : decode cc pc = .ok (.invokestatic i, 3)) (kk : Wc K A (wr ++ mwo Y ad (kcy K) τ) cs sl (pc + 3) lv (v.toList ++ rest)) : Wc K A ws cs sl pc lv st := by
  intro H locs ls hP hD hS hl T hT X
  have hPc := hP.sub isC (fm_of hC)
  have hFc := va_free hD hS C.2.2.2.2.2.2.1 isC hC
  have hF2 : ∀ q, mA Y ad q → A q := fun q h => hFc q (mwo_A h)
  have hT : GoodIn mB (va_wsS own i y (.code y cd maxL ret :: mB)) := mB_in (fun _ h => h) (fun w h => by
    rcases List.mem_append.mp h with h | h
    · simp only [List.mem_cons, List.not_mem_nil, or_false] at h
      rcases h with rfl | rfl | rfl
      · exact hw.1
      · exact hw.2.1
      · exact hw.2.2.1
    · rcases List.mem_cons.mp h with rfl | h
      · exact hw.2.2.2
      · exact h)
  have hroom : (rmN nc).frames + 1 ≤ (kR K).frames ∧ 8 + (maxL + 11) + (rmN nc).locals ≤ (kR K).locals := by
    refine ⟨Nat.le_trans hn C.2.2.2.2.2.2.2.2.1.1, Nat.le_trans ?_ C.2.2.2.2.2.2.2.2.1.2.2.2⟩
    show 8 + (maxL + 11) + 50 * nc ≤ 50 * n
    omega
  have hp : PreS (ks K) H (va_Pc As (Pg Y (kD K) ad (kcy K) σ)) As := ⟨Pg_blind, fun U hU hW => ⟨rfl, by rw [hU]; exact hPc, va_K.moved hW.alike C.2.2.2.2.2.1, mT_narrow hF2 (mT_warm hW (fun a h1 h2 => by rw [hU]; exact hS.2.1 a h1 h2) C.2.2.2.2.2.2.2.1)⟩⟩
  obtain ⟨v', st₀, t, T', L, h0, X', hL, e1, e2, ⟨hv, hP1, hz, hk⟩, sg⟩ := va_runS (nL := kn K) (As := As) (rest := rest) (cells := cs) (slots := sl) (e := ke K) (below := kb K) (meth := kme K) (locs := locs) (g := F0 (km K) pc ls st) ⟨C.1, C.2.1, C.2.2.1, C.2.2.2.1, C.2.2.2.2.1⟩ hM (va_cwS ar C.2.2.2.2.1 hT rfl rfl rfl hy hroom) hp rfl ha hl.1 hst (lv_room hr) d ⟨Nat.le_trans h1 C.2.2.2.2.2.2.2.2.1.2.1, Nat.le_trans h2 C.2.2.2.2.2.2.2.2.1.2.2.1⟩ T ‹_› X
  cases hv
  rw [h0] at hz hk
  obtain ⟨hP2, hD2⟩ := va_join hP hD isC isR hC hR hnR hdis (fun q h1 h2 => hk q h1 (fun z => h2 (mwo_A z))) hFc hP1 ((mwo_D hJ (kcy K) τ).weaken (fun _ _ _ z => mwo_A z))
  obtain ⟨t2, a1, b1⟩ := kk T'.heap (locs ++ L) ls (by rw [e1]; exact hP2) hD2
    ⟨Nat.le_trans hS.1 (by rw [e1]; exact hz), fun q h1 h2 => by rw [e1, hk q (Nat.lt_of_lt_of_le h1 hS.1) (fun z => h2 (hF2 q z))]; exact hS.2.1 q h1 h2, fun q hq => by
      rcases List.mem_append.mp hq with h | h
      · exact hS.2.2 q h
      · exact hF2 _ (hL q h)⟩ hl T' rfl X'
  exact ⟨t2, sg t2 a1, b1⟩
end KR
