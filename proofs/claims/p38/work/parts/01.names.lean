def va_AOA (t : FieldType) (U : State) : Prop := (Cond.arrayOver (.array t)).before #[] U = true
theorem va_AOA.use {t : FieldType} {A : Array Value} {U : State} (h : va_AOA t U) : (Cond.arrayOver (.array t)).before A U = true := h
/-! ===== BEGIN words of one list among another's, by their places ===== -/
theorem goodIn_r {big : List Cond} (ws : List Cond) (ps : List Nat) (hp : ws = ps.filterMap (fun i => big[i]?)) (h : ws.all goodWord = true) : GoodIn big ws := by
  intro w hw
  have h1 := List.all_eq_true.mp h w hw
  rw [hp] at hw
  obtain ⟨i, -, hi⟩ := List.mem_filterMap.mp hw
  have hm : w ∈ big := by first | exact List.mem_of_getElem? hi | exact List.getElem?_mem hi
  exact ⟨hm, good_of_word h1⟩
theorem goodIn_app {big a b : List Cond} (ha : GoodIn big a) (hb : GoodIn big b) : GoodIn big (a ++ b) := fun w h => (List.mem_append.mp h).elim (ha w) (hb w)
theorem goodIn_ca {big a b : List Cond} {c : Cond} (ha : GoodIn big (c :: a)) (hb : GoodIn big b) : GoodIn big (c :: (a ++ b)) := fun w h => (List.mem_cons.mp h).elim (fun e => ha w (List.mem_cons.mpr (Or.inl e))) (fun h => (List.mem_append.mp h).elim (fun h => ha w (List.mem_cons.mpr (Or.inr h))) (hb w))
theorem goodIn_sub {big ws : List Cond} (hm : ∀ w ∈ ws, w ∈ big) (h : ws.all goodWord = true) : GoodIn big ws := fun w hw => ⟨hm w hw, good_of_word (List.all_eq_true.mp h w hw)⟩
/-! ===== END ===== -/

/-! ===== BEGIN new T[n][m]: the outer array a place, the inner ones among the pooled ===== -/
/-- f, but v at every address of l -/
def vr_up {α : Type} (f : Nat → α) (l : List Nat) (v : α) : Nat → α := fun a => if a ∈ l then v else f a
theorem vr_up_in {α : Type} {f : Nat → α} {l : List Nat} {v : α} {a : Nat} (h : a ∈ l) : vr_up f l v a = v := if_pos h
theorem vr_up_ne {α : Type} {f : Nat → α} {l : List Nat} {v : α} {a : Nat} (h : a ∉ l) : vr_up f l v a = f a := if_neg h
theorem vr_rows {L l : List Nat} {f : Nat → va_E} {e : va_E} (h : ∀ a, a ∈ l → a ∉ L) : va_pl L f ++ l.map (fun a => (a, e)) = va_pl (L ++ l) (vr_up f l e) := by
  unfold va_pl
  rw [List.map_append]
  congr 1
  · apply List.map_congr_left
    intro a ha
    rw [vr_up_ne (fun q => h a q ha)]
  · apply List.map_congr_left
    intro a ha
    rw [vr_up_in ha]
theorem vr_lay {X rows : va_W} {x : Nat × va_E} {pl : va_W} {D : va_G} {cl : List vw_C} {H : Heap} (hP : va_P D cl (((X ++ pl) ++ [x]) ++ rows) H) : va_P D cl ((X ++ [x]) ++ (pl ++ rows)) H := by
  rw [List.append_assoc (X ++ pl)] at hP
  have h := va_P.swap hP
  rw [← List.append_assoc X] at h
  have h2 := va_P.swap h
  rw [List.append_assoc (X ++ [x])] at h2
  exact h2
theorem vr_layD {X rows : va_W} {x : Nat × va_E} {pl : va_W} {A : Nat → Prop} (hD : va_D A (((X ++ pl) ++ [x]) ++ rows)) : va_D A ((X ++ [x]) ++ (pl ++ rows)) := by
  rw [List.append_assoc (X ++ pl)] at hD
  have h := va_D.swap hD
  rw [← List.append_assoc X] at h
  have h2 := va_D.swap h
  rw [List.append_assoc (X ++ [x])] at h2
  exact h2
theorem vr_outer (c : ClassId) (N h0 : Nat) : ∀ i : Nat, Jvm.Free.Multi.outerC c N h0 i = arrV c N (fun j => va_rf (if j < i then some (h0 + 1 + j) else none))
  | 0 => by
    show ({ cls := c, slots := Array.replicate N .null, vm := .none } : Cell) = _
    rw [arrV_new]
    refine congrArg (arrV c N) (funext fun j => ?_)
    simp [va_rf]
  | i + 1 => by
    show (Jvm.Free.Multi.outerC c N h0 i).setSlot i (.ref (h0 + 1 + i)) = _
    rw [vr_outer c N h0 i, arrV_store]
    refine congrArg (arrV c N) (funext fun j => ?_)
    by_cases e : j = i
    · subst e
      simp [updV, va_rf]
    · by_cases h : j < i
      · simp [updV, e, h, Nat.lt_succ_of_lt h]
      · simp [updV, e, h, show ¬ j < i + 1 by omega]
section VGM
variable {p : Program} {l : Launch} {e : Env} {R : Room} {s : State} {m : MethodId} {args : Array Value} {below : List Frame} {meth : Method} {c : Code} {H : Heap} {locs : List Loc} {cells slots : Nat} {Q : State → Prop}
variable {cc : ByteArray} {pc : Nat} {ls : Array Slot} {rest : List Value} {D : va_G} {cl : List vw_C} {A : Nat → Prop} {a : Nat} {tys : List (ClassId × FieldType)} {ws : va_W} {H0 : Heap}
theorem va_mna {X : va_W} {L : List Nat} {f : Nat → va_E} {cc : ByteArray} (hexec : p.tables.exec = Jvm.exec) (hb : c.code = cc) {own : String} {index : Nat} {ty : FieldType} {cy : ClassId} (hown : s.vm.findClass own = some m.cls) (hclink : (Cond.classLink own index ("[" ++ (FieldType.array ty).toString)).before args s = true) (hover : va_AOA ty s) (harr : (Cond.arrayClass ty).before args s = true) (hcy : s.vm.findClass (FieldType.array ty).toString = some cy)
    (hK : va_K D cl tys s) (hP : va_P D cl (X ++ va_pl L f) H) (hD : va_D A (X ++ va_pl L f)) (hS : va_S A H0 H locs) (hA : ∀ q, H0.size ≤ q → A q) {n k : Int32} {N' K' : Nat} {z : vp_A} (hn : ¬ n < 0) (hk : ¬ k < 0) (hN : n.toNatClampNeg = N') (hM : k.toNatClampNeg = K')
    (hb1 : N' * 4 ≤ 536870912) (hb2 : K' * componentBytes ty ≤ 536870912) (hb3 : K' ≤ 536870912) (hdf : fits ty (defaultValue ty) = true) (hdd : (defaultValue ty).isDefault = true) (hcells : cells + (1 + N') ≤ R.cells) (hslots : slots + (N' + N' * K') ≤ R.slots) (hz : ∀ c : ClassId, Jvm.Free.Multi.innerC c K' (defaultValue ty) = vp_cell c z) (hdg : decode cc pc = .ok (.multianewarray index 2, 4))
    (kk : ∀ (q : Nat) (r : Nat → Nat) (cA : ClassId) (H1 : Heap), (∀ i j : Nat, i < N' → j < N' → r i = r j → i = j) → (∀ i : Nat, i < N' → r i ∉ L) → va_K D cl (tys ++ [(cA, .array ty)]) s →
      va_P D cl ((X ++ [(q, .inl (cA, N', .inr (.inr (.inr (.inr (fun i => if i < N' then some (r i) else none))))))]) ++ va_pl (L ++ (List.range N').map r) (vr_up f ((List.range N').map r) (.inl (cy, z)))) H1 → va_D A ((X ++ [(q, .inl (cA, N', .inr (.inr (.inr (.inr (fun i => if i < N' then some (r i) else none))))))]) ++ va_pl (L ++ (List.range N').map r) (vr_up f ((List.range N').map r) (.inl (cy, z)))) → va_S A H0 H1 locs →
      W p l e R s m args below meth c H1 locs (cells + 1 + N') (slots + N' + N' * K') Q (F0 m (pc + 4) ls (.ref q :: rest))) : W p l e R s m args below meth c H locs cells slots Q (F0 m pc ls (.int k :: .int n :: rest)) := by
  subst hN
  subst hM
  intro T hT Xs
  obtain ⟨vm₁, cA, comp, -, fA, fC, hO, -, X', step⟩ := Xs.multianewarray2F hexec hown hclink (va_AOA.use hover) harr (g := F0 m pc ls (.int k :: .int n :: rest)) rfl (by rw [hb]; exact hdg) rfl hn hk hb1 hb2 hb3 hdf hdd hcells hslots
  have ec : some cy = some comp := hcy.symm.trans fC
  cases ec
  generalize hF : Jvm.Free.Multi.fill (T.setVm vm₁) cA cy n.toNatClampNeg k.toNatClampNeg (defaultValue ty) n.toNatClampNeg = F at X' step
  have hTh : (T.setVm vm₁).heap = H := hT
  obtain ⟨f1, f2, -, -⟩ := Jvm.Free.Multi.fill_facts (T.setVm vm₁) cA cy n.toNatClampNeg k.toNatClampNeg (defaultValue ty) n.toNatClampNeg
  rw [hF, hTh] at f1 f2
  have hold : ∀ x : Nat, x < H.size → F.heap[x]? = H[x]? := fun x hx => by
    have := Jvm.Free.Multi.fill_old (T.setVm vm₁) cA cy n.toNatClampNeg k.toNatClampNeg (defaultValue ty) (a := x) (by rw [hTh]; exact hx) n.toNatClampNeg
    rw [hF, hTh] at this
    exact this
  have hrow : ∀ j : Nat, j < n.toNatClampNeg → F.heap[H.size + 1 + j]? = some (vp_cell cy z) := fun j hj => by
    have := Jvm.Free.Multi.fill_inner (T.setVm vm₁) cA cy n.toNatClampNeg k.toNatClampNeg (defaultValue ty) n.toNatClampNeg j hj
    rw [hF, hTh, hz] at this
    exact this
  have hout : Jvm.Free.Multi.outerC cA n.toNatClampNeg H.size n.toNatClampNeg = vp_cell cA (n.toNatClampNeg, .inr (.inr (.inr (.inr (fun i => if i < n.toNatClampNeg then some (H.size + 1 + i) else none))))) := by
    rw [vp_cell_q]
    exact vr_outer cA n.toNatClampNeg H.size n.toNatClampNeg
  rw [hout] at f2
  have hlt : ∀ a, a ∈ L → a < H.size := fun a ha => by
    obtain ⟨k9, hk9⟩ := va_pl_get (X := X) (f := f) ha
    exact (hP k9 _ hk9).lt
  have hnl : ∀ i : Nat, i < n.toNatClampNeg → H.size + 1 + i ∉ L := fun i _ h => by
    have := hlt _ h
    omega
  have hnm : ∀ a, a ∈ (List.range n.toNatClampNeg).map (fun i => H.size + 1 + i) → a ∉ L := fun a ha h => by
    obtain ⟨i, -, rfl⟩ := List.mem_map.mp ha
    have := hlt _ h
    omega
  have hP0 : va_P D cl (X ++ va_pl L f) F.heap := hP.kept (fun k9 x hx => hold x.1 ((hP k9 x hx).lt))
  have hP1 : va_P D cl ((X ++ va_pl L f) ++ [(H.size, .inl (cA, n.toNatClampNeg, .inr (.inr (.inr (.inr (fun i => if i < n.toNatClampNeg then some (H.size + 1 + i) else none))))))]) F.heap := hP0.app (fun k9 x hx => by
    have h0 : k9 < 1 := (List.getElem?_eq_some_iff.mp hx).1
    rw [show k9 = 0 by omega] at hx
    cases hx
    exact f2)
  have hP2 : va_P D cl (((X ++ va_pl L f) ++ [(H.size, .inl (cA, n.toNatClampNeg, .inr (.inr (.inr (.inr (fun i => if i < n.toNatClampNeg then some (H.size + 1 + i) else none))))))]) ++ ((List.range n.toNatClampNeg).map (fun i => H.size + 1 + i)).map (fun a => (a, .inl (cy, z)))) F.heap := hP1.app (fun k9 x hx => by
    obtain ⟨a, ha, rfl⟩ := List.mem_map.mp (List.mem_of_getElem? hx)
    obtain ⟨i, hi, rfl⟩ := List.mem_map.mp ha
    exact hrow i (List.mem_range.mp hi))
  have hD2 : va_D A (((X ++ va_pl L f) ++ [(H.size, .inl (cA, n.toNatClampNeg, .inr (.inr (.inr (.inr (fun i => if i < n.toNatClampNeg then some (H.size + 1 + i) else none))))))]) ++ ((List.range n.toNatClampNeg).map (fun i => H.size + 1 + i)).map (fun a => (a, .inl (cy, z)))) := by
    have hD1 := hD.push (e := .inl (cA, n.toNatClampNeg, .inr (.inr (.inr (.inr (fun i => if i < n.toNatClampNeg then some (H.size + 1 + i) else none)))))) hP rfl (hA _ hS.1)
    generalize hW1 : (X ++ va_pl L f) ++ [(H.size, .inl (cA, n.toNatClampNeg, .inr (.inr (.inr (.inr (fun i => if i < n.toNatClampNeg then some (H.size + 1 + i) else none))))))] = W1 at hD1 hP1 ⊢
    have hle : ∀ (k9 : Nat) (x : Nat × va_E), W1[k9]? = some x → x.1 ≤ H.size := fun k9 x hx => by
      rw [← hW1] at hx
      by_cases hl : k9 < (X ++ va_pl L f).length
      · rw [List.getElem?_append_left hl] at hx
        exact Nat.le_of_lt ((hP k9 x hx).lt)
      · rw [List.getElem?_append_right (by omega)] at hx
        have h0 : k9 - (X ++ va_pl L f).length < 1 := (List.getElem?_eq_some_iff.mp hx).1
        rw [show k9 - (X ++ va_pl L f).length = 0 by omega] at hx
        cases hx
        exact Nat.le_refl _
    have hr : ∀ (k9 : Nat) (x : Nat × va_E), (((List.range n.toNatClampNeg).map (fun i => H.size + 1 + i)).map (fun a => ((a, .inl (cy, z)) : Nat × va_E)))[k9]? = some x → x.1 = H.size + 1 + k9 := fun k9 x hx => by
      rw [List.getElem?_map, List.getElem?_map] at hx
      by_cases h9 : k9 < n.toNatClampNeg
      · rw [List.getElem?_range h9] at hx
        cases hx
        rfl
      · have hn0 : (List.range n.toNatClampNeg)[k9]? = none := List.getElem?_eq_none (by rw [List.length_range]; omega)
        rw [hn0] at hx
        cases hx
    refine ⟨fun i j x y hi hj hxy => ?_, fun k9 x hx => ?_⟩
    · by_cases h1 : i < W1.length <;> by_cases h2 : j < W1.length
      · rw [List.getElem?_append_left h1] at hi
        rw [List.getElem?_append_left h2] at hj
        exact hD1.1 i j x y hi hj hxy
      · rw [List.getElem?_append_left h1] at hi
        rw [List.getElem?_append_right (by omega)] at hj
        have := hle _ _ hi
        have := hr _ _ hj
        omega
      · rw [List.getElem?_append_right (by omega)] at hi
        rw [List.getElem?_append_left h2] at hj
        have := hle _ _ hj
        have := hr _ _ hi
        omega
      · rw [List.getElem?_append_right (by omega)] at hi hj
        have := hr _ _ hi
        have := hr _ _ hj
        omega
    · by_cases h1 : k9 < W1.length
      · rw [List.getElem?_append_left h1] at hx
        exact hD1.2 k9 x hx
      · rw [List.getElem?_append_right (by omega)] at hx
        have := hr _ _ hx
        exact hA _ (by have := hS.1; omega)
  have hAr : ArrOfT s cA (.array ty) := fun N9 z9 => by
    obtain ⟨-, k9, hk9, cm9, hkk9⟩ := (hO 0 0 0).1
    exact ⟨(fun q hq => by cases hq), k9, hk9, cm9, hkk9⟩
  have hK2 : va_K D cl (tys ++ [(cA, .array ty)]) s := ⟨hK.1, fun k9 x hx => by
    by_cases hl : k9 < tys.length
    · rw [List.getElem?_append_left hl] at hx
      exact hK.2 k9 x hx
    · rw [List.getElem?_append_right (by omega)] at hx
      have h0 : k9 - tys.length < 1 := (List.getElem?_eq_some_iff.mp hx).1
      rw [show k9 - tys.length = 0 by omega] at hx
      cases hx
      exact ⟨hAr, fA⟩⟩
  obtain ⟨t, a1, b1⟩ := kk H.size (fun i => H.size + 1 + i) cA F.heap (fun i j _ _ h => by have h9 : H.size + 1 + i = H.size + 1 + j := h; omega) hnl hK2 (by rw [← vr_rows hnm]; exact vr_lay hP2) (by rw [← vr_rows hnm]; exact vr_layD hD2) ⟨by rw [f1]; have := hS.1; omega, fun x h1 h2 => (hold x (Nat.lt_of_lt_of_le h1 hS.1)).trans (hS.2.1 x h1 h2), hS.2.2⟩ F rfl X'
  refine ⟨t, step t ?_, b1⟩
  have e : T.heap.size = H.size := by rw [hT]
  rw [e]
  exact a1
end VGM
/-! ===== END ===== -/

/-! ===== BEGIN printed: names, fields, word lists, decode rows ===== -/
def RX0 : String := "CalledNumbers$Deaf"
def TX0 : u_T := fun k => match k with
  | _ => ("", "", "", false)
def tyX0 : Nat → FieldType := fun k => match k with
  | _ => .int
abbrev wsX00 : List Cond := u_ws RX0 TX0 0
theorem nmX0 : ∀ a, a < 0 → ∀ b, b < 0 → a ≠ b → (TX0 a).2.1 ≠ (TX0 b).2.1 := by decide +kernel
theorem tyX0_ok : ∀ k, k < 0 → parseFieldDescriptor (TX0 k).2.2.1 = some (tyX0 k) := by decide +kernel
abbrev cX0_init : ByteArray := prog_2_method_1_code
def yX0_init : MethodName := ⟨RX0, "<init>", "()V"⟩
abbrev cX0_heard : ByteArray := prog_2_method_2_code
def yX0_heard : MethodName := ⟨RX0, "heard", "(III)I"⟩
abbrev cX0_callsTillDeaf : ByteArray := prog_2_method_3_code
def yX0_callsTillDeaf : MethodName := ⟨RX0, "callsTillDeaf", "(I)I"⟩
def RX1 : String := "CalledNumbers$Deeds"
def TX1 : u_T := fun k => match k with
  | 0 => ("CalledNumbers$Deeds", "done", "[I", true)
  | _ => ("CalledNumbers$Deeds", "size", "I", false)
def tyX1 : Nat → FieldType := fun k => match k with
  | 0 => .array .int
  | _ => .int
abbrev wsX10 : List Cond := u_ws RX1 TX1 2
theorem nmX1 : ∀ a, a < 2 → ∀ b, b < 2 → a ≠ b → (TX1 a).2.1 ≠ (TX1 b).2.1 := by decide +kernel
theorem tyX1_ok : ∀ k, k < 2 → parseFieldDescriptor (TX1 k).2.2.1 = some (tyX1 k) := by decide +kernel
abbrev cX1_init : ByteArray := prog_3_method_1_code
def yX1_init : MethodName := ⟨RX1, "<init>", "()V"⟩
abbrev cX1_add : ByteArray := prog_3_method_2_code
def yX1_add : MethodName := ⟨RX1, "add", "(I)V"⟩
abbrev cX1_take : ByteArray := prog_3_method_3_code
def yX1_take : MethodName := ⟨RX1, "take", "(LCalledNumbers$Deeds;)V"⟩
def RX2 : String := "CalledNumbers$Hall"
def TX2 : u_T := fun k => match k with
  | 0 => ("CalledNumbers$Hall", "seats", "LCalledNumbers$Seats;", true)
  | 1 => ("CalledNumbers$Hall", "marks", "[I", true)
  | 2 => ("CalledNumbers$Hall", "won", "I", false)
  | 3 => ("CalledNumbers$Hall", "bag", "I", false)
  | 4 => ("CalledNumbers$Hall", "last", "I", false)
  | _ => ("CalledNumbers$Hall", "calls", "I", false)
def tyX2 : Nat → FieldType := fun k => match k with
  | 0 => .object "CalledNumbers$Seats"
  | 1 => .array .int
  | 2 => .int
  | 3 => .int
  | 4 => .int
  | _ => .int
abbrev wsX20 : List Cond := u_ws RX2 TX2 6
theorem nmX2 : ∀ a, a < 6 → ∀ b, b < 6 → a ≠ b → (TX2 a).2.1 ≠ (TX2 b).2.1 := by decide +kernel
theorem tyX2_ok : ∀ k, k < 6 → parseFieldDescriptor (TX2 k).2.2.1 = some (tyX2 k) := by decide +kernel
abbrev cX2_init : ByteArray := prog_4_method_1_code
def yX2_init : MethodName := ⟨RX2, "<init>", "(LCalledNumbers$Seats;)V"⟩
abbrev cX2_begin : ByteArray := prog_4_method_2_code
def yX2_begin : MethodName := ⟨RX2, "begin", "()V"⟩
abbrev cX2_take : ByteArray := prog_4_method_3_code
def yX2_take : MethodName := ⟨RX2, "take", "(LCalledNumbers$Hall;)V"⟩
abbrev cX2_holds : ByteArray := prog_4_method_4_code
def yX2_holds : MethodName := ⟨RX2, "holds", "(I)Z"⟩
abbrev cX2_hasWon : ByteArray := prog_4_method_5_code
def yX2_hasWon : MethodName := ⟨RX2, "hasWon", "(I)Z"⟩
abbrev cX2_ring : ByteArray := prog_4_method_6_code
def yX2_ring : MethodName := ⟨RX2, "ring", "(II)I"⟩
abbrev cX2_turn : ByteArray := prog_4_method_7_code
def yX2_turn : MethodName := ⟨RX2, "turn", "(II)V"⟩
abbrev cX2_allMarks : ByteArray := prog_4_method_8_code
def yX2_allMarks : MethodName := ⟨RX2, "allMarks", "()I"⟩
abbrev cX2_worth : ByteArray := prog_4_method_9_code
def yX2_worth : MethodName := ⟨RX2, "worth", "(I)I"⟩
def RX3 : String := "CalledNumbers$Hasty"
def TX3 : u_T := fun k => match k with
  | _ => ("", "", "", false)
def tyX3 : Nat → FieldType := fun k => match k with
  | _ => .int
abbrev wsX30 : List Cond := u_ws RX3 TX3 0
theorem nmX3 : ∀ a, a < 0 → ∀ b, b < 0 → a ≠ b → (TX3 a).2.1 ≠ (TX3 b).2.1 := by decide +kernel
theorem tyX3_ok : ∀ k, k < 0 → parseFieldDescriptor (TX3 k).2.2.1 = some (tyX3 k) := by decide +kernel
abbrev cX3_init : ByteArray := prog_5_method_1_code
def yX3_init : MethodName := ⟨RX3, "<init>", "()V"⟩
abbrev cX3_lacks : ByteArray := prog_5_method_2_code
def yX3_lacks : MethodName := ⟨RX3, "lacks", "(I)I"⟩
abbrev cX3_linesOfTwo : ByteArray := prog_5_method_3_code
def yX3_linesOfTwo : MethodName := ⟨RX3, "linesOfTwo", "(I)I"⟩
def RX4 : String := "CalledNumbers$Late"
def TX4 : u_T := fun k => match k with
  | _ => ("", "", "", false)
def tyX4 : Nat → FieldType := fun k => match k with
  | _ => .int
abbrev wsX40 : List Cond := u_ws RX4 TX4 0
theorem nmX4 : ∀ a, a < 0 → ∀ b, b < 0 → a ≠ b → (TX4 a).2.1 ≠ (TX4 b).2.1 := by decide +kernel
theorem tyX4_ok : ∀ k, k < 0 → parseFieldDescriptor (TX4 k).2.2.1 = some (tyX4 k) := by decide +kernel
abbrev cX4_init : ByteArray := prog_6_method_1_code
def yX4_init : MethodName := ⟨RX4, "<init>", "()V"⟩
abbrev cX4_heard : ByteArray := prog_6_method_2_code
def yX4_heard : MethodName := ⟨RX4, "heard", "(III)I"⟩
def RX5 : String := "CalledNumbers$Plain"
def TX5 : u_T := fun k => match k with
  | _ => ("", "", "", false)
def tyX5 : Nat → FieldType := fun k => match k with
  | _ => .int
abbrev wsX50 : List Cond := u_ws RX5 TX5 0
theorem nmX5 : ∀ a, a < 0 → ∀ b, b < 0 → a ≠ b → (TX5 a).2.1 ≠ (TX5 b).2.1 := by decide +kernel
theorem tyX5_ok : ∀ k, k < 0 → parseFieldDescriptor (TX5 k).2.2.1 = some (tyX5 k) := by decide +kernel
abbrev cX5_init : ByteArray := prog_7_method_1_code
def yX5_init : MethodName := ⟨RX5, "<init>", "()V"⟩
abbrev cX5_heard : ByteArray := prog_7_method_2_code
def yX5_heard : MethodName := ⟨RX5, "heard", "(III)I"⟩
abbrev cX5_lacks : ByteArray := prog_7_method_3_code
def yX5_lacks : MethodName := ⟨RX5, "lacks", "(I)I"⟩
abbrev cX5_inUpper : ByteArray := prog_7_method_4_code
def yX5_inUpper : MethodName := ⟨RX5, "inUpper", "(I)I"⟩
abbrev cX5_inLower : ByteArray := prog_7_method_5_code
def yX5_inLower : MethodName := ⟨RX5, "inLower", "(I)I"⟩
def RX6 : String := "CalledNumbers$Reader"
def TX6 : u_T := fun k => match k with
  | 0 => ("CalledNumbers$Reader", "kindOf", "[I", true)
  | 1 => ("CalledNumbers$Reader", "cards", "[[I", true)
  | _ => ("CalledNumbers$Reader", "players", "I", false)
def tyX6 : Nat → FieldType := fun k => match k with
  | 0 => .array .int
  | 1 => .array (.array .int)
  | _ => .int
abbrev wsX60 : List Cond := u_ws RX6 TX6 3
theorem nmX6 : ∀ a, a < 3 → ∀ b, b < 3 → a ≠ b → (TX6 a).2.1 ≠ (TX6 b).2.1 := by decide +kernel
theorem tyX6_ok : ∀ k, k < 3 → parseFieldDescriptor (TX6 k).2.2.1 = some (tyX6 k) := by decide +kernel
abbrev cX6_init : ByteArray := prog_8_method_1_code
def yX6_init : MethodName := ⟨RX6, "<init>", "()V"⟩
abbrev cX6_read : ByteArray := prog_8_method_2_code
def yX6_read : MethodName := ⟨RX6, "read", "([BI)I"⟩
abbrev cX6_kindBy : ByteArray := prog_8_method_3_code
def yX6_kindBy : MethodName := ⟨RX6, "kindBy", "(I)I"⟩
abbrev cX6_readCard : ByteArray := prog_8_method_4_code
def yX6_readCard : MethodName := ⟨RX6, "readCard", "([BII)I"⟩
def RX7 : String := "CalledNumbers$Seats"
def TX7 : u_T := fun k => match k with
  | 0 => ("CalledNumbers$Seats", "kinds", "[LCalledNumbers$Plain;", true)
  | 1 => ("CalledNumbers$Seats", "kindOf", "[I", true)
  | 2 => ("CalledNumbers$Seats", "cards", "[[I", true)
  | 3 => ("CalledNumbers$Seats", "cardBits", "[I", true)
  | _ => ("CalledNumbers$Seats", "taken", "I", false)
def tyX7 : Nat → FieldType := fun k => match k with
  | 0 => .array (.object "CalledNumbers$Plain")
  | 1 => .array .int
  | 2 => .array (.array .int)
  | 3 => .array .int
  | _ => .int
abbrev wsX70 : List Cond := u_ws RX7 TX7 5
theorem nmX7 : ∀ a, a < 5 → ∀ b, b < 5 → a ≠ b → (TX7 a).2.1 ≠ (TX7 b).2.1 := by decide +kernel
theorem tyX7_ok : ∀ k, k < 5 → parseFieldDescriptor (TX7 k).2.2.1 = some (tyX7 k) := by decide +kernel
abbrev cX7_init : ByteArray := prog_9_method_1_code
def yX7_init : MethodName := ⟨RX7, "<init>", "()V"⟩
abbrev cX7_fillBy : ByteArray := prog_9_method_2_code
def yX7_fillBy : MethodName := ⟨RX7, "fillBy", "(LCalledNumbers$Reader;)V"⟩
abbrev cX7_kindAt : ByteArray := prog_9_method_3_code
def yX7_kindAt : MethodName := ⟨RX7, "kindAt", "(I)LCalledNumbers$Plain;"⟩
abbrev cX7_marked : ByteArray := prog_9_method_4_code
def yX7_marked : MethodName := ⟨RX7, "marked", "(III)I"⟩
abbrev cX7_wholeOnes : ByteArray := prog_9_method_5_code
def yX7_wholeOnes : MethodName := ⟨RX7, "wholeOnes", "()I"⟩
abbrev cX7_deafOnes : ByteArray := prog_9_method_6_code
def yX7_deafOnes : MethodName := ⟨RX7, "deafOnes", "()I"⟩
def RX8 : String := "CalledNumbers$Sly"
def TX8 : u_T := fun k => match k with
  | _ => ("", "", "", false)
def tyX8 : Nat → FieldType := fun k => match k with
  | _ => .int
abbrev wsX80 : List Cond := u_ws RX8 TX8 0
theorem nmX8 : ∀ a, a < 0 → ∀ b, b < 0 → a ≠ b → (TX8 a).2.1 ≠ (TX8 b).2.1 := by decide +kernel
theorem tyX8_ok : ∀ k, k < 0 → parseFieldDescriptor (TX8 k).2.2.1 = some (tyX8 k) := by decide +kernel
abbrev cX8_init : ByteArray := prog_10_method_1_code
def yX8_init : MethodName := ⟨RX8, "<init>", "()V"⟩
abbrev cX8_heard : ByteArray := prog_10_method_2_code
def yX8_heard : MethodName := ⟨RX8, "heard", "(III)I"⟩
abbrev cX8_behind : ByteArray := prog_10_method_3_code
def yX8_behind : MethodName := ⟨RX8, "behind", "(I)I"⟩
abbrev cX8_pairsOn : ByteArray := prog_10_method_4_code
def yX8_pairsOn : MethodName := ⟨RX8, "pairsOn", "(I)I"⟩
def RX9 : String := "CalledNumbers$Whole"
def TX9 : u_T := fun k => match k with
  | _ => ("", "", "", false)
def tyX9 : Nat → FieldType := fun k => match k with
  | _ => .int
abbrev wsX90 : List Cond := u_ws RX9 TX9 0
theorem nmX9 : ∀ a, a < 0 → ∀ b, b < 0 → a ≠ b → (TX9 a).2.1 ≠ (TX9 b).2.1 := by decide +kernel
theorem tyX9_ok : ∀ k, k < 0 → parseFieldDescriptor (TX9 k).2.2.1 = some (tyX9 k) := by decide +kernel
abbrev cX9_init : ByteArray := prog_11_method_1_code
def yX9_init : MethodName := ⟨RX9, "<init>", "()V"⟩
abbrev cX9_lacks : ByteArray := prog_11_method_2_code
def yX9_lacks : MethodName := ⟨RX9, "lacks", "(I)I"⟩
def RX10 : String := "CalledNumbers"
def TX10 : u_T := fun k => match k with
  | 0 => ("CalledNumbers", "rows", "[[I", true)
  | 1 => ("CalledNumbers", "rowSizes", "[I", true)
  | 2 => ("CalledNumbers", "texts", "[[B", true)
  | 3 => ("CalledNumbers", "textSizes", "[I", true)
  | 4 => ("CalledNumbers", "reader", "LCalledNumbers$Reader;", true)
  | 5 => ("CalledNumbers", "seats", "LCalledNumbers$Seats;", true)
  | 6 => ("CalledNumbers", "hall", "LCalledNumbers$Hall;", true)
  | 7 => ("CalledNumbers", "deeds", "LCalledNumbers$Deeds;", true)
  | 8 => ("CalledNumbers", "kept", "[LCalledNumbers$Deeds;", true)
  | 9 => ("CalledNumbers", "aside", "[LCalledNumbers$Hall;", true)
  | 10 => ("CalledNumbers", "trail", "[I", true)
  | 11 => ("CalledNumbers", "mostWinners", "I", false)
  | 12 => ("CalledNumbers", "parts", "[I", true)
  | 13 => ("CalledNumbers", "asked", "I", false)
  | 14 => ("CalledNumbers", "upper", "J", false)
  | 15 => ("CalledNumbers", "lower", "J", false)
  | 16 => ("CalledNumbers", "finding", "I", false)
  | _ => ("CalledNumbers", "findings", "[I", true)
def tyX10 : Nat → FieldType := fun k => match k with
  | 0 => .array (.array .int)
  | 1 => .array .int
  | 2 => .array (.array .byte)
  | 3 => .array .int
  | 4 => .object "CalledNumbers$Reader"
  | 5 => .object "CalledNumbers$Seats"
  | 6 => .object "CalledNumbers$Hall"
  | 7 => .object "CalledNumbers$Deeds"
  | 8 => .array (.object "CalledNumbers$Deeds")
  | 9 => .array (.object "CalledNumbers$Hall")
  | 10 => .array .int
  | 11 => .int
  | 12 => .array .int
  | 13 => .int
  | 14 => .long
  | 15 => .long
  | 16 => .int
  | _ => .array .int
abbrev wsX100 : List Cond := u_ws RX10 TX10 18
theorem nmX10 : ∀ a, a < 18 → ∀ b, b < 18 → a ≠ b → (TX10 a).2.1 ≠ (TX10 b).2.1 := by decide +kernel
theorem tyX10_ok : ∀ k, k < 18 → parseFieldDescriptor (TX10 k).2.2.1 = some (tyX10 k) := by decide +kernel
abbrev cX10_init : ByteArray := prog_1_method_1_code
def yX10_init : MethodName := ⟨RX10, "<init>", "()V"⟩
abbrev cX10_row : ByteArray := prog_1_method_2_code
def yX10_row : MethodName := ⟨RX10, "row", "(II)I"⟩
abbrev cX10_lay : ByteArray := prog_1_method_3_code
def yX10_lay : MethodName := ⟨RX10, "lay", "(III)I"⟩
abbrev cX10_at : ByteArray := prog_1_method_4_code
def yX10_at : MethodName := ⟨RX10, "at", "(II)I"⟩
abbrev cX10_tear : ByteArray := prog_1_method_5_code
def yX10_tear : MethodName := ⟨RX10, "tear", "(I)I"⟩
abbrev cX10_copy : ByteArray := prog_1_method_6_code
def yX10_copy : MethodName := ⟨RX10, "copy", "(IIIII)I"⟩
abbrev cX10_mean : ByteArray := prog_1_method_7_code
def yX10_mean : MethodName := ⟨RX10, "mean", "(I)I"⟩
abbrev cX10_text : ByteArray := prog_1_method_8_code
def yX10_text : MethodName := ⟨RX10, "text", "(II)I"⟩
abbrev cX10_put : ByteArray := prog_1_method_9_code
def yX10_put : MethodName := ⟨RX10, "put", "(III)I"⟩
abbrev cX10_fault : ByteArray := prog_1_method_10_code
def yX10_fault : MethodName := ⟨RX10, "fault", "(I)I"⟩
abbrev cX10_hall : ByteArray := prog_1_method_11_code
def yX10_hall : MethodName := ⟨RX10, "hall", "(I)I"⟩
abbrev cX10_player : ByteArray := prog_1_method_12_code
def yX10_player : MethodName := ⟨RX10, "player", "(II)I"⟩
abbrev cX10_card : ByteArray := prog_1_method_13_code
def yX10_card : MethodName := ⟨RX10, "card", "(II)I"⟩
abbrev cX10_mark : ByteArray := prog_1_method_14_code
def yX10_mark : MethodName := ⟨RX10, "mark", "(II)I"⟩
abbrev cX10_call : ByteArray := prog_1_method_15_code
def yX10_call : MethodName := ⟨RX10, "call", "(I)I"⟩
abbrev cX10_rub : ByteArray := prog_1_method_16_code
def yX10_rub : MethodName := ⟨RX10, "rub", "(II)I"⟩
abbrev cX10_undo : ByteArray := prog_1_method_17_code
def yX10_undo : MethodName := ⟨RX10, "undo", "(I)I"⟩
abbrev cX10_keep : ByteArray := prog_1_method_18_code
def yX10_keep : MethodName := ⟨RX10, "keep", "(I)I"⟩
abbrev cX10_on : ByteArray := prog_1_method_19_code
def yX10_on : MethodName := ⟨RX10, "on", "(I)I"⟩
abbrev cX10_hears : ByteArray := prog_1_method_20_code
def yX10_hears : MethodName := ⟨RX10, "hears", "(IIII)I"⟩
abbrev cX10_run : ByteArray := prog_1_method_21_code
def yX10_run : MethodName := ⟨RX10, "run", "(I)I"⟩
abbrev cX10_safe : ByteArray := prog_1_method_22_code
def yX10_safe : MethodName := ⟨RX10, "safe", "()I"⟩
abbrev cX10_fewest : ByteArray := prog_1_method_23_code
def yX10_fewest : MethodName := ⟨RX10, "fewest", "(II)I"⟩
abbrev cX10_most : ByteArray := prog_1_method_24_code
def yX10_most : MethodName := ⟨RX10, "most", "(II)I"⟩
abbrev cX10_which : ByteArray := prog_1_method_25_code
def yX10_which : MethodName := ⟨RX10, "which", "(II)I"⟩
abbrev cX10_kinds : ByteArray := prog_1_method_26_code
def yX10_kinds : MethodName := ⟨RX10, "kinds", "(II)I"⟩
abbrev cX10_next : ByteArray := prog_1_method_27_code
def yX10_next : MethodName := ⟨RX10, "next", "(II)I"⟩
abbrev cX10_duel : ByteArray := prog_1_method_28_code
def yX10_duel : MethodName := ⟨RX10, "duel", "(III)I"⟩
abbrev cX10_odds : ByteArray := prog_1_method_29_code
def yX10_odds : MethodName := ⟨RX10, "odds", "(II)I"⟩
abbrev cX10_mid : ByteArray := prog_1_method_30_code
def yX10_mid : MethodName := ⟨RX10, "mid", "(II)I"⟩
abbrev cX10_lots : ByteArray := prog_1_method_31_code
def yX10_lots : MethodName := ⟨RX10, "lots", "(II)I"⟩
abbrev cX10_asked : ByteArray := prog_1_method_32_code
def yX10_asked : MethodName := ⟨RX10, "asked", "()I"⟩
abbrev cX10_upper : ByteArray := prog_1_method_33_code
def yX10_upper : MethodName := ⟨RX10, "upper", "()J"⟩
abbrev cX10_lower : ByteArray := prog_1_method_34_code
def yX10_lower : MethodName := ⟨RX10, "lower", "()J"⟩
abbrev cX10_count : ByteArray := prog_1_method_35_code
def yX10_count : MethodName := ⟨RX10, "count", "(I)I"⟩
abbrev cX10_finding : ByteArray := prog_1_method_36_code
def yX10_finding : MethodName := ⟨RX10, "finding", "()I"⟩
abbrev cX10_findings : ByteArray := prog_1_method_37_code
def yX10_findings : MethodName := ⟨RX10, "findings", "(I)I"⟩
abbrev cX10_digest : ByteArray := prog_1_method_38_code
def yX10_digest : MethodName := ⟨RX10, "digest", "()J"⟩
abbrev cX10_found : ByteArray := prog_1_method_39_code
def yX10_found : MethodName := ⟨RX10, "found", "(I)I"⟩
abbrev cX10_isRow : ByteArray := prog_1_method_40_code
def yX10_isRow : MethodName := ⟨RX10, "isRow", "(I)Z"⟩
abbrev cX10_isText : ByteArray := prog_1_method_41_code
def yX10_isText : MethodName := ⟨RX10, "isText", "(I)Z"⟩
abbrev cX10_isPlayer : ByteArray := prog_1_method_42_code
def yX10_isPlayer : MethodName := ⟨RX10, "isPlayer", "(I)Z"⟩
abbrev cX10_isPlace : ByteArray := prog_1_method_43_code
def yX10_isPlace : MethodName := ⟨RX10, "isPlace", "(I)Z"⟩
abbrev cX10_isNumber : ByteArray := prog_1_method_44_code
def yX10_isNumber : MethodName := ⟨RX10, "isNumber", "(I)Z"⟩
abbrev cX10_isKeptPlace : ByteArray := prog_1_method_45_code
def yX10_isKeptPlace : MethodName := ⟨RX10, "isKeptPlace", "(I)Z"⟩
abbrev cX10_refusedRow : ByteArray := prog_1_method_46_code
def yX10_refusedRow : MethodName := ⟨RX10, "refusedRow", "(I)I"⟩
abbrev cX10_refusedPlace : ByteArray := prog_1_method_47_code
def yX10_refusedPlace : MethodName := ⟨RX10, "refusedPlace", "(II)I"⟩
abbrev cX10_refusedText : ByteArray := prog_1_method_48_code
def yX10_refusedText : MethodName := ⟨RX10, "refusedText", "(I)I"⟩
abbrev cX10_reaches : ByteArray := prog_1_method_49_code
def yX10_reaches : MethodName := ⟨RX10, "reaches", "(III)Z"⟩
abbrev cX10_refusedPairs : ByteArray := prog_1_method_50_code
def yX10_refusedPairs : MethodName := ⟨RX10, "refusedPairs", "(II)I"⟩
abbrev cX10_ofPlayer : ByteArray := prog_1_method_51_code
def yX10_ofPlayer : MethodName := ⟨RX10, "ofPlayer", "(II)I"⟩
abbrev cX10_doCall : ByteArray := prog_1_method_52_code
def yX10_doCall : MethodName := ⟨RX10, "doCall", "(I)I"⟩
abbrev cX10_doRub : ByteArray := prog_1_method_53_code
def yX10_doRub : MethodName := ⟨RX10, "doRub", "(II)V"⟩
abbrev cX10_doLot : ByteArray := prog_1_method_54_code
def yX10_doLot : MethodName := ⟨RX10, "doLot", "(I)V"⟩
abbrev cX10_doAgain : ByteArray := prog_1_method_55_code
def yX10_doAgain : MethodName := ⟨RX10, "doAgain", "()V"⟩
abbrev cX10_callsAhead : ByteArray := prog_1_method_56_code
def yX10_callsAhead : MethodName := ⟨RX10, "callsAhead", "(I)I"⟩
abbrev cX10_stepAhead : ByteArray := prog_1_method_57_code
def yX10_stepAhead : MethodName := ⟨RX10, "stepAhead", "(III)I"⟩
abbrev cX10_layTrail : ByteArray := prog_1_method_58_code
def yX10_layTrail : MethodName := ⟨RX10, "layTrail", "(II)V"⟩
abbrev cX10_winsAhead : ByteArray := prog_1_method_59_code
def yX10_winsAhead : MethodName := ⟨RX10, "winsAhead", "(III)Z"⟩
abbrev cX10_gatherMost : ByteArray := prog_1_method_60_code
def yX10_gatherMost : MethodName := ⟨RX10, "gatherMost", "(III)V"⟩
abbrev cX10_duelAhead : ByteArray := prog_1_method_61_code
def yX10_duelAhead : MethodName := ⟨RX10, "duelAhead", "(IIII)I"⟩
abbrev cX10_marksBy : ByteArray := prog_1_method_62_code
def yX10_marksBy : MethodName := ⟨RX10, "marksBy", "(III)I"⟩
abbrev cX10_fittingKinds : ByteArray := prog_1_method_63_code
def yX10_fittingKinds : MethodName := ⟨RX10, "fittingKinds", "(II)I"⟩
abbrev cX10_fitsPairs : ByteArray := prog_1_method_64_code
def yX10_fitsPairs : MethodName := ⟨RX10, "fitsPairs", "(III)Z"⟩
abbrev cX10_greatestPart : ByteArray := prog_1_method_65_code
def yX10_greatestPart : MethodName := ⟨RX10, "greatestPart", "(III)I"⟩
abbrev cX10_tellAhead : ByteArray := prog_1_method_66_code
def yX10_tellAhead : MethodName := ⟨RX10, "tellAhead", "(IIZ)I"⟩
abbrev cX10_orders : ByteArray := prog_1_method_67_code
def yX10_orders : MethodName := ⟨RX10, "orders", "(I)J"⟩
abbrev cX10_sumAhead : ByteArray := prog_1_method_68_code
def yX10_sumAhead : MethodName := ⟨RX10, "sumAhead", "(IZII)J"⟩
abbrev cX10_tell : ByteArray := prog_1_method_69_code
def yX10_tell : MethodName := ⟨RX10, "tell", "(JJ)V"⟩
abbrev cX10_commonDivisor : ByteArray := prog_1_method_70_code
def yX10_commonDivisor : MethodName := ⟨RX10, "commonDivisor", "(JJ)J"⟩
abbrev cX10_thoseThere : ByteArray := prog_1_method_71_code
def yX10_thoseThere : MethodName := ⟨RX10, "thoseThere", "([I)I"⟩
abbrev cX10_keptHalls : ByteArray := prog_1_method_72_code
def yX10_keptHalls : MethodName := ⟨RX10, "keptHalls", "()I"⟩
def RX11 : String := "CalledNumbersModel"
def TX11 : u_T := fun k => match k with
  | 0 => ("CalledNumbersModel", "size", "[I", true)
  | 1 => ("CalledNumbersModel", "items", "[I", true)
  | 2 => ("CalledNumbersModel", "moved", "[I", true)
  | 3 => ("CalledNumbersModel", "length", "[I", true)
  | 4 => ("CalledNumbersModel", "bytes", "[B", true)
  | 5 => ("CalledNumbersModel", "players", "I", false)
  | 6 => ("CalledNumbersModel", "kind", "[I", true)
  | 7 => ("CalledNumbersModel", "cards", "[I", true)
  | 8 => ("CalledNumbersModel", "newPlayers", "I", false)
  | 9 => ("CalledNumbersModel", "newKind", "[I", true)
  | 10 => ("CalledNumbersModel", "newCards", "[I", true)
  | 11 => ("CalledNumbersModel", "slot", "[I", true)
  | 12 => ("CalledNumbersModel", "deeds", "I", false)
  | 13 => ("CalledNumbersModel", "kept", "[I", true)
  | 14 => ("CalledNumbersModel", "asked", "I", false)
  | 15 => ("CalledNumbersModel", "above", "J", false)
  | 16 => ("CalledNumbersModel", "below", "J", false)
  | 17 => ("CalledNumbersModel", "latest", "I", false)
  | 18 => ("CalledNumbersModel", "often", "[I", true)
  | 19 => ("CalledNumbersModel", "path", "[I", true)
  | 20 => ("CalledNumbersModel", "best", "[I", true)
  | _ => ("CalledNumbersModel", "worth", "[I", true)
def tyX11 : Nat → FieldType := fun k => match k with
  | 0 => .array .int
  | 1 => .array .int
  | 2 => .array .int
  | 3 => .array .int
  | 4 => .array .byte
  | 5 => .int
  | 6 => .array .int
  | 7 => .array .int
  | 8 => .int
  | 9 => .array .int
  | 10 => .array .int
  | 11 => .array .int
  | 12 => .int
  | 13 => .array .int
  | 14 => .int
  | 15 => .long
  | 16 => .long
  | 17 => .int
  | 18 => .array .int
  | 19 => .array .int
  | 20 => .array .int
  | _ => .array .int
abbrev wsX110 : List Cond := u_ws RX11 TX11 22
theorem nmX11 : ∀ a, a < 22 → ∀ b, b < 22 → a ≠ b → (TX11 a).2.1 ≠ (TX11 b).2.1 := by decide +kernel
theorem tyX11_ok : ∀ k, k < 22 → parseFieldDescriptor (TX11 k).2.2.1 = some (tyX11 k) := by decide +kernel
abbrev cX11_init : ByteArray := prog_13_method_1_code
def yX11_init : MethodName := ⟨RX11, "<init>", "()V"⟩
abbrev cX11_in : ByteArray := prog_13_method_2_code
def yX11_in : MethodName := ⟨RX11, "in", "(JJJ)Z"⟩
abbrev cX11_has : ByteArray := prog_13_method_3_code
def yX11_has : MethodName := ⟨RX11, "has", "(II)Z"⟩
abbrev cX11_bits : ByteArray := prog_13_method_4_code
def yX11_bits : MethodName := ⟨RX11, "bits", "(I)I"⟩
abbrev cX11_lesser : ByteArray := prog_13_method_5_code
def yX11_lesser : MethodName := ⟨RX11, "lesser", "(II)I"⟩
abbrev cX11_larger : ByteArray := prog_13_method_6_code
def yX11_larger : MethodName := ⟨RX11, "larger", "(II)I"⟩
abbrev cX11_finds : ByteArray := prog_13_method_7_code
def yX11_finds : MethodName := ⟨RX11, "finds", "(I)I"⟩
abbrev cX11_tells : ByteArray := prog_13_method_8_code
def yX11_tells : MethodName := ⟨RX11, "tells", "(I)I"⟩
abbrev cX11_isRow : ByteArray := prog_13_method_9_code
def yX11_isRow : MethodName := ⟨RX11, "isRow", "(I)Z"⟩
abbrev cX11_isText : ByteArray := prog_13_method_10_code
def yX11_isText : MethodName := ⟨RX11, "isText", "(I)Z"⟩
abbrev cX11_anew : ByteArray := prog_13_method_11_code
def yX11_anew : MethodName := ⟨RX11, "anew", "(II)V"⟩
abbrev cX11_row : ByteArray := prog_13_method_12_code
def yX11_row : MethodName := ⟨RX11, "row", "(II)I"⟩
abbrev cX11_lay : ByteArray := prog_13_method_13_code
def yX11_lay : MethodName := ⟨RX11, "lay", "(III)I"⟩
abbrev cX11_at : ByteArray := prog_13_method_14_code
def yX11_at : MethodName := ⟨RX11, "at", "(II)I"⟩
abbrev cX11_tear : ByteArray := prog_13_method_15_code
def yX11_tear : MethodName := ⟨RX11, "tear", "(I)I"⟩
abbrev cX11_copy : ByteArray := prog_13_method_16_code
def yX11_copy : MethodName := ⟨RX11, "copy", "(IIIII)I"⟩
abbrev cX11_mean : ByteArray := prog_13_method_17_code
def yX11_mean : MethodName := ⟨RX11, "mean", "(I)I"⟩
abbrev cX11_text : ByteArray := prog_13_method_18_code
def yX11_text : MethodName := ⟨RX11, "text", "(II)I"⟩
abbrev cX11_put : ByteArray := prog_13_method_19_code
def yX11_put : MethodName := ⟨RX11, "put", "(III)I"⟩
abbrev cX11_kindOf : ByteArray := prog_13_method_20_code
def yX11_kindOf : MethodName := ⟨RX11, "kindOf", "(I)I"⟩
abbrev cX11_isFigure : ByteArray := prog_13_method_21_code
def yX11_isFigure : MethodName := ⟨RX11, "isFigure", "(II)Z"⟩
abbrev cX11_isOn : ByteArray := prog_13_method_22_code
def yX11_isOn : MethodName := ⟨RX11, "isOn", "(III)Z"⟩
abbrev cX11_numbers : ByteArray := prog_13_method_23_code
def yX11_numbers : MethodName := ⟨RX11, "numbers", "(III)I"⟩
abbrev cX11_faultOf : ByteArray := prog_13_method_24_code
def yX11_faultOf : MethodName := ⟨RX11, "faultOf", "(I)I"⟩
abbrev cX11_fault : ByteArray := prog_13_method_25_code
def yX11_fault : MethodName := ⟨RX11, "fault", "(I)I"⟩
abbrev cX11_hall : ByteArray := prog_13_method_26_code
def yX11_hall : MethodName := ⟨RX11, "hall", "(I)I"⟩
abbrev cX11_isPlayer : ByteArray := prog_13_method_27_code
def yX11_isPlayer : MethodName := ⟨RX11, "isPlayer", "(I)Z"⟩
abbrev cX11_isA : ByteArray := prog_13_method_28_code
def yX11_isA : MethodName := ⟨RX11, "isA", "(II)Z"⟩
abbrev cX11_heard : ByteArray := prog_13_method_29_code
def yX11_heard : MethodName := ⟨RX11, "heard", "(IIII)I"⟩
abbrev cX11_needs : ByteArray := prog_13_method_30_code
def yX11_needs : MethodName := ⟨RX11, "needs", "(II)I"⟩
abbrev cX11_marksBy : ByteArray := prog_13_method_31_code
def yX11_marksBy : MethodName := ⟨RX11, "marksBy", "(II)I"⟩
abbrev cX11_calls : ByteArray := prog_13_method_32_code
def yX11_calls : MethodName := ⟨RX11, "calls", "(II)I"⟩
abbrev cX11_told : ByteArray := prog_13_method_33_code
def yX11_told : MethodName := ⟨RX11, "told", "(II)I"⟩
abbrev cX11_player : ByteArray := prog_13_method_34_code
def yX11_player : MethodName := ⟨RX11, "player", "(II)I"⟩
abbrev cX11_card : ByteArray := prog_13_method_35_code
def yX11_card : MethodName := ⟨RX11, "card", "(II)I"⟩
abbrev cX11_mark : ByteArray := prog_13_method_36_code
def yX11_mark : MethodName := ⟨RX11, "mark", "(II)I"⟩
abbrev cX11_copies : ByteArray := prog_13_method_37_code
def yX11_copies : MethodName := ⟨RX11, "copies", "(III)V"⟩
abbrev cX11_known : ByteArray := prog_13_method_38_code
def yX11_known : MethodName := ⟨RX11, "known", "()V"⟩
abbrev cX11_call : ByteArray := prog_13_method_39_code
def yX11_call : MethodName := ⟨RX11, "call", "(I)I"⟩
abbrev cX11_rub : ByteArray := prog_13_method_40_code
def yX11_rub : MethodName := ⟨RX11, "rub", "(II)I"⟩
abbrev cX11_undo : ByteArray := prog_13_method_41_code
def yX11_undo : MethodName := ⟨RX11, "undo", "(I)I"⟩
abbrev cX11_keep : ByteArray := prog_13_method_42_code
def yX11_keep : MethodName := ⟨RX11, "keep", "(I)I"⟩
abbrev cX11_on : ByteArray := prog_13_method_43_code
def yX11_on : MethodName := ⟨RX11, "on", "(I)I"⟩
abbrev cX11_hears : ByteArray := prog_13_method_44_code
def yX11_hears : MethodName := ⟨RX11, "hears", "(IIII)I"⟩
abbrev cX11_run : ByteArray := prog_13_method_45_code
def yX11_run : MethodName := ⟨RX11, "run", "(I)I"⟩
abbrev cX11_safe : ByteArray := prog_13_method_46_code
def yX11_safe : MethodName := ⟨RX11, "safe", "()I"⟩
abbrev cX11_follows : ByteArray := prog_13_method_47_code
def yX11_follows : MethodName := ⟨RX11, "follows", "(IZ)Z"⟩
abbrev cX11_comes : ByteArray := prog_13_method_48_code
def yX11_comes : MethodName := ⟨RX11, "comes", "(II)V"⟩
abbrev cX11_takes : ByteArray := prog_13_method_49_code
def yX11_takes : MethodName := ⟨RX11, "takes", "(I)V"⟩
abbrev cX11_fewest : ByteArray := prog_13_method_50_code
def yX11_fewest : MethodName := ⟨RX11, "fewest", "(II)I"⟩
abbrev cX11_most : ByteArray := prog_13_method_51_code
def yX11_most : MethodName := ⟨RX11, "most", "(II)I"⟩
abbrev cX11_which : ByteArray := prog_13_method_52_code
def yX11_which : MethodName := ⟨RX11, "which", "(II)I"⟩
abbrev cX11_wrongOf : ByteArray := prog_13_method_53_code
def yX11_wrongOf : MethodName := ⟨RX11, "wrongOf", "(I)I"⟩
abbrev cX11_kindsBy : ByteArray := prog_13_method_54_code
def yX11_kindsBy : MethodName := ⟨RX11, "kindsBy", "(II)I"⟩
abbrev cX11_kinds : ByteArray := prog_13_method_55_code
def yX11_kinds : MethodName := ⟨RX11, "kinds", "(II)I"⟩
abbrev cX11_part : ByteArray := prog_13_method_56_code
def yX11_part : MethodName := ⟨RX11, "part", "(III)I"⟩
abbrev cX11_next : ByteArray := prog_13_method_57_code
def yX11_next : MethodName := ⟨RX11, "next", "(II)I"⟩
abbrev cX11_worthOf : ByteArray := prog_13_method_58_code
def yX11_worthOf : MethodName := ⟨RX11, "worthOf", "(III)I"⟩
abbrev cX11_duel : ByteArray := prog_13_method_59_code
def yX11_duel : MethodName := ⟨RX11, "duel", "(III)I"⟩
abbrev cX11_better : ByteArray := prog_13_method_60_code
def yX11_better : MethodName := ⟨RX11, "better", "(II)V"⟩
abbrev cX11_fraction : ByteArray := prog_13_method_61_code
def yX11_fraction : MethodName := ⟨RX11, "fraction", "(JJ)I"⟩
abbrev cX11_lot : ByteArray := prog_13_method_62_code
def yX11_lot : MethodName := ⟨RX11, "lot", "(IIZ)I"⟩
abbrev cX11_odds : ByteArray := prog_13_method_63_code
def yX11_odds : MethodName := ⟨RX11, "odds", "(II)I"⟩
abbrev cX11_mid : ByteArray := prog_13_method_64_code
def yX11_mid : MethodName := ⟨RX11, "mid", "(II)I"⟩
abbrev cX11_lots : ByteArray := prog_13_method_65_code
def yX11_lots : MethodName := ⟨RX11, "lots", "(II)I"⟩
abbrev cX11_asked : ByteArray := prog_13_method_66_code
def yX11_asked : MethodName := ⟨RX11, "asked", "()I"⟩
abbrev cX11_upper : ByteArray := prog_13_method_67_code
def yX11_upper : MethodName := ⟨RX11, "upper", "()J"⟩
abbrev cX11_lower : ByteArray := prog_13_method_68_code
def yX11_lower : MethodName := ⟨RX11, "lower", "()J"⟩
abbrev cX11_manyOf : ByteArray := prog_13_method_69_code
def yX11_manyOf : MethodName := ⟨RX11, "manyOf", "(I)I"⟩
abbrev cX11_allMarks : ByteArray := prog_13_method_70_code
def yX11_allMarks : MethodName := ⟨RX11, "allMarks", "()I"⟩
abbrev cX11_thereAre : ByteArray := prog_13_method_71_code
def yX11_thereAre : MethodName := ⟨RX11, "thereAre", "(I)I"⟩
abbrev cX11_countOf : ByteArray := prog_13_method_72_code
def yX11_countOf : MethodName := ⟨RX11, "countOf", "(I)I"⟩
abbrev cX11_count : ByteArray := prog_13_method_73_code
def yX11_count : MethodName := ⟨RX11, "count", "(I)I"⟩
abbrev cX11_finding : ByteArray := prog_13_method_74_code
def yX11_finding : MethodName := ⟨RX11, "finding", "()I"⟩
abbrev cX11_findings : ByteArray := prog_13_method_75_code
def yX11_findings : MethodName := ⟨RX11, "findings", "(I)I"⟩
abbrev cX11_digest : ByteArray := prog_13_method_76_code
def yX11_digest : MethodName := ⟨RX11, "digest", "()J"⟩
def RJ6 : String := "java/lang/Integer"
def TJ6 : u_T := fun k => match k with
  | _ => ("", "", "", false)
def tyJ6 : Nat → FieldType := fun k => match k with
  | _ => .int
abbrev wsJ60 : List Cond := u_ws RJ6 TJ6 0
theorem nmJ6 : ∀ a, a < 0 → ∀ b, b < 0 → a ≠ b → (TJ6 a).2.1 ≠ (TJ6 b).2.1 := by decide +kernel
theorem tyJ6_ok : ∀ k, k < 0 → parseFieldDescriptor (TJ6 k).2.2.1 = some (tyJ6 k) := by decide +kernel
abbrev cJ6_bitCount_0f7a4 : ByteArray := prog_14_method_49_code
def yJ6_bitCount_0f7a4 : MethodName := ⟨RJ6, "bitCount", "(I)I"⟩
def RJ9 : String := "java/lang/Math"
def TJ9 : u_T := fun k => match k with
  | _ => ("", "", "", false)
def tyJ9 : Nat → FieldType := fun k => match k with
  | _ => .int
abbrev wsJ90 : List Cond := u_ws RJ9 TJ9 0
theorem nmJ9 : ∀ a, a < 0 → ∀ b, b < 0 → a ≠ b → (TJ9 a).2.1 ≠ (TJ9 b).2.1 := by decide +kernel
theorem tyJ9_ok : ∀ k, k < 0 → parseFieldDescriptor (TJ9 k).2.2.1 = some (tyJ9 k) := by decide +kernel
abbrev cJ9_max_7cf53 : ByteArray := prog_15_method_65_code
def yJ9_max_7cf53 : MethodName := ⟨RJ9, "max", "(II)I"⟩
abbrev cJ9_min_7cf53 : ByteArray := prog_15_method_69_code
def yJ9_min_7cf53 : MethodName := ⟨RJ9, "min", "(II)I"⟩
def RJ10 : String := "java/lang/System"
def TJ10 : u_T := fun k => match k with
  | _ => ("", "", "", false)
def tyJ10 : Nat → FieldType := fun k => match k with
  | _ => .int
abbrev wsJ100 : List Cond := u_ws RJ10 TJ10 0
theorem nmJ10 : ∀ a, a < 0 → ∀ b, b < 0 → a ≠ b → (TJ10 a).2.1 ≠ (TJ10 b).2.1 := by decide +kernel
theorem tyJ10_ok : ∀ k, k < 0 → parseFieldDescriptor (TJ10 k).2.2.1 = some (tyJ10 k) := by decide +kernel
def RJ7 : String := "java/util/Arrays"
def TJ7 : u_T := fun k => match k with
  | _ => ("", "", "", false)
def tyJ7 : Nat → FieldType := fun k => match k with
  | _ => .int
abbrev wsJ70 : List Cond := u_ws RJ7 TJ7 0
theorem nmJ7 : ∀ a, a < 0 → ∀ b, b < 0 → a ≠ b → (TJ7 a).2.1 ≠ (TJ7 b).2.1 := by decide +kernel
theorem tyJ7_ok : ∀ k, k < 0 → parseFieldDescriptor (TJ7 k).2.2.1 = some (tyJ7 k) := by decide +kernel
abbrev cJ7_fill_53178 : ByteArray := prog_17_method_103_code
def yJ7_fill_53178 : MethodName := ⟨RJ7, "fill", "([II)V"⟩
abbrev cJ7_fill_031fb : ByteArray := prog_17_method_109_code
def yJ7_fill_031fb : MethodName := ⟨RJ7, "fill", "([BB)V"⟩
def RL : String := "CalledNumbersLaw"
abbrev cL_law : ByteArray := code
def yL_law : MethodName := ⟨RL, "law", "([I)Z"⟩
abbrev vwCl : List vw_C := [(RX0, TX0, 0), (RX1, TX1, 2), (RX2, TX2, 6), (RX3, TX3, 0), (RX4, TX4, 0), (RX5, TX5, 0), (RX6, TX6, 3), (RX7, TX7, 5), (RX8, TX8, 0), (RX9, TX9, 0), (RX10, TX10, 18), (RX11, TX11, 22)]
