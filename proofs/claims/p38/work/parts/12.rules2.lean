/-- n ints of cell k from place sp on come to cell k2 from place dp on -/
def mcp (σ : mS) (k sp k2 dp n : Nat) : mS := (va_up σ.1 k2 (va_cpy (σ.1 k) (σ.1 k2) sp dp n), σ.2)
section XR2
variable {Y : mY} {K : Kx} {cc : ByteArray} {own : String} {n : Nat} {σ τ : mS} {pc : Nat} {lv lv' : List (Nat × Value)} {st rest : List Value}
theorem x_getI (C : Cx Y K cc own n) {k ci j i : Nat} {fd : List Nat} {q : vw_C} (hk : k ∈ Y.1) (hd : Y.2 k = .inl (ci, fd)) (hc : vwCl[ci]? = some q) (hin : ∀ w ∈ u_ws q.1 q.2.1 q.2.2, w ∈ mB) (hj : j < q.2.2) (hl : Cond.fieldLink own i (q.2.1 j).1 (q.2.1 j).2.1 (q.2.1 j).2.2.1 ∈ mB) (hf : fd[j]? = some 0) (d : decode cc pc = .ok (.getfield i, 3)) (kk : Wx Y K σ (pc + 3) lv (.int (σ.1 k j) :: st)) : Wx Y K σ pc lv (.ref (kad K k) :: st) := x_getV C hk hd hc hin hj hl (by rw [hf]; rfl) d kk
theorem x_getL (C : Cx Y K cc own n) {k ci j i : Nat} {fd : List Nat} {q : vw_C} (hk : k ∈ Y.1) (hd : Y.2 k = .inl (ci, fd)) (hc : vwCl[ci]? = some q) (hin : ∀ w ∈ u_ws q.1 q.2.1 q.2.2, w ∈ mB) (hj : j < q.2.2) (hl : Cond.fieldLink own i (q.2.1 j).1 (q.2.1 j).2.1 (q.2.1 j).2.2.1 ∈ mB) (hf : fd[j]? = some 1) (d : decode cc pc = .ok (.getfield i, 3)) (kk : Wx Y K σ (pc + 3) lv (.long (σ.2 k j) :: st)) : Wx Y K σ pc lv (.ref (kad K k) :: st) := x_getV C hk hd hc hin hj hl (by rw [hf]; rfl) d kk
theorem x_getR (C : Cx Y K cc own n) {k ci j i : Nat} {fd : List Nat} {q : vw_C} (k2 : Nat) (hk : k ∈ Y.1) (hd : Y.2 k = .inl (ci, fd)) (hc : vwCl[ci]? = some q) (hin : ∀ w ∈ u_ws q.1 q.2.1 q.2.2, w ∈ mB) (hj : j < q.2.2) (hl : Cond.fieldLink own i (q.2.1 j).1 (q.2.1 j).2.1 (q.2.1 j).2.2.1 ∈ mB) (hf : fd[j]? = some (k2 + 2)) (d : decode cc pc = .ok (.getfield i, 3)) (kk : Wx Y K σ (pc + 3) lv (.ref (kad K k2) :: st)) : Wx Y K σ pc lv (.ref (kad K k) :: st) := x_getV C hk hd hc hin hj hl (by rw [hf]; rfl) d kk
theorem x_getIN (C : Cx Y K cc own n) {host : String} {k ci j i : Nat} {fd : List Nat} {q : vw_C} (hk : k ∈ Y.1) (hd : Y.2 k = .inl (ci, fd)) (hc : vwCl[ci]? = some q) (hin : ∀ w ∈ u_ws q.1 q.2.1 q.2.2, w ∈ mB) (hj : j < q.2.2) (hl : Cond.fieldLinkNest own i (q.2.1 j).1 (q.2.1 j).2.1 (q.2.1 j).2.2.1 host ∈ mNs) (hf : fd[j]? = some 0) (d : decode cc pc = .ok (.getfield i, 3)) (kk : Wx Y K σ (pc + 3) lv (.int (σ.1 k j) :: st)) : Wx Y K σ pc lv (.ref (kad K k) :: st) := x_getVN C hk hd hc hin hj hl (by rw [hf]; rfl) d kk
theorem x_getRN (C : Cx Y K cc own n) {host : String} {k ci j i : Nat} {fd : List Nat} {q : vw_C} (k2 : Nat) (hk : k ∈ Y.1) (hd : Y.2 k = .inl (ci, fd)) (hc : vwCl[ci]? = some q) (hin : ∀ w ∈ u_ws q.1 q.2.1 q.2.2, w ∈ mB) (hj : j < q.2.2) (hl : Cond.fieldLinkNest own i (q.2.1 j).1 (q.2.1 j).2.1 (q.2.1 j).2.2.1 host ∈ mNs) (hf : fd[j]? = some (k2 + 2)) (d : decode cc pc = .ok (.getfield i, 3)) (kk : Wx Y K σ (pc + 3) lv (.ref (kad K k2) :: st)) : Wx Y K σ pc lv (.ref (kad K k) :: st) := x_getVN C hk hd hc hin hj hl (by rw [hf]; rfl) d kk
theorem x_putI (C : Cx Y K cc own n) {k ci j i : Nat} {fd : List Nat} {q : vw_C} {v : Int32} (ty0 : Nat → FieldType) (hty : ∀ k, k < q.2.2 → parseFieldDescriptor (q.2.1 k).2.2.1 = some (ty0 k)) (hnm : ∀ a, a < q.2.2 → ∀ b, b < q.2.2 → a ≠ b → (q.2.1 a).2.1 ≠ (q.2.1 b).2.1) (hk : k ∈ Y.1) (hd : Y.2 k = .inl (ci, fd)) (hc : vwCl[ci]? = some q) (hin : ∀ w ∈ u_ws q.1 q.2.1 q.2.2, w ∈ mB) (hj : j < q.2.2) (hl : Cond.fieldLink own i (q.2.1 j).1 (q.2.1 j).2.1 (q.2.1 j).2.2.1 ∈ mB) (hfin : (q.2.1 j).2.2.2 = false) (hi : parseFieldDescriptor (q.2.1 j).2.2.1 = some .int) (hf : fd[j]? = some 0) (d : decode cc pc = .ok (.putfield i, 3)) (kk : Wx Y K (mwI σ k j v) (pc + 3) lv st) : Wx Y K σ pc lv (.int v :: .ref (kad K k) :: st) := by
  intro H locs ls hP hS hl2
  obtain ⟨p0, hp0, he⟩ := mwo_at (ad := kad K) (cy := kcy K) (σ := σ) hk hd
  have hlen : j < fd.length := (List.getElem?_eq_some_iff.mp hf).1
  refine va_put C.1 C.2.1 C.2.2.2.2.1 hin ty0 hty hnm C.2.2.2.1 C.2.2.2.2.2.1 hP (mwo_D C.2.2.2.2.2.2.1 _ _) hS p0 he hc j hj (C.2.2.2.2.1 _ hl) (fun _ h => h) hfin hi rfl rfl (by rw [mfs_len]; exact hlen) d (fun H1 locs1 hP1 _ hS1 => ?_)
  rw [mwo_set (σ := σ) (τ := mwI σ k j v) C.2.2.2.2.2.2.1.1 hp0 (by rw [hd]; simp only [mce]; rw [mfs_I hf]) mwI_o] at hP1
  exact kk H1 locs1 ls hP1 hS1 hl2
theorem x_putIN (C : Cx Y K cc own n) {host : String} {k ci j i : Nat} {fd : List Nat} {q : vw_C} {v : Int32} (ty0 : Nat → FieldType) (hty : ∀ k, k < q.2.2 → parseFieldDescriptor (q.2.1 k).2.2.1 = some (ty0 k)) (hnm : ∀ a, a < q.2.2 → ∀ b, b < q.2.2 → a ≠ b → (q.2.1 a).2.1 ≠ (q.2.1 b).2.1) (hk : k ∈ Y.1) (hd : Y.2 k = .inl (ci, fd)) (hc : vwCl[ci]? = some q) (hin : ∀ w ∈ u_ws q.1 q.2.1 q.2.2, w ∈ mB) (hj : j < q.2.2) (hl : Cond.fieldLinkNest own i (q.2.1 j).1 (q.2.1 j).2.1 (q.2.1 j).2.2.1 host ∈ mNs) (hfin : (q.2.1 j).2.2.2 = false) (hi : parseFieldDescriptor (q.2.1 j).2.2.1 = some .int) (hf : fd[j]? = some 0) (d : decode cc pc = .ok (.putfield i, 3)) (kk : Wx Y K (mwI σ k j v) (pc + 3) lv st) : Wx Y K σ pc lv (.int v :: .ref (kad K k) :: st) := by
  intro H locs ls hP hS hl2
  obtain ⟨p0, hp0, he⟩ := mwo_at (ad := kad K) (cy := kcy K) (σ := σ) hk hd
  have hlen : j < fd.length := (List.getElem?_eq_some_iff.mp hf).1
  refine va_putN C.1 C.2.1 C.2.2.2.2.1 hin ty0 hty hnm C.2.2.2.1 C.2.2.2.2.2.1 hP (mwo_D C.2.2.2.2.2.2.1 _ _) hS p0 he hc j hj (va_Nw.use rfl (C.2.2.2.2.2.2.2.1.1 _ hl)) (fun _ h => h) hfin hi rfl rfl (by rw [mfs_len]; exact hlen) d (fun H1 locs1 hP1 _ hS1 => ?_)
  rw [mwo_set (σ := σ) (τ := mwI σ k j v) C.2.2.2.2.2.2.1.1 hp0 (by rw [hd]; simp only [mce]; rw [mfs_I hf]) mwI_o] at hP1
  exact kk H1 locs1 ls hP1 hS1 hl2
theorem x_putL (C : Cx Y K cc own n) {k ci j i : Nat} {fd : List Nat} {q : vw_C} {v : Int64} (ty0 : Nat → FieldType) (hty : ∀ k, k < q.2.2 → parseFieldDescriptor (q.2.1 k).2.2.1 = some (ty0 k)) (hnm : ∀ a, a < q.2.2 → ∀ b, b < q.2.2 → a ≠ b → (q.2.1 a).2.1 ≠ (q.2.1 b).2.1) (hk : k ∈ Y.1) (hd : Y.2 k = .inl (ci, fd)) (hc : vwCl[ci]? = some q) (hin : ∀ w ∈ u_ws q.1 q.2.1 q.2.2, w ∈ mB) (hj : j < q.2.2) (hl : Cond.fieldLink own i (q.2.1 j).1 (q.2.1 j).2.1 (q.2.1 j).2.2.1 ∈ mB) (hfin : (q.2.1 j).2.2.2 = false) (hi : parseFieldDescriptor (q.2.1 j).2.2.1 = some .long) (hf : fd[j]? = some 1) (d : decode cc pc = .ok (.putfield i, 3)) (kk : Wx Y K (mwL σ k j v) (pc + 3) lv st) : Wx Y K σ pc lv (.long v :: .ref (kad K k) :: st) := by
  intro H locs ls hP hS hl2
  obtain ⟨p0, hp0, he⟩ := mwo_at (ad := kad K) (cy := kcy K) (σ := σ) hk hd
  have hlen : j < fd.length := (List.getElem?_eq_some_iff.mp hf).1
  refine va_put C.1 C.2.1 C.2.2.2.2.1 hin ty0 hty hnm C.2.2.2.1 C.2.2.2.2.2.1 hP (mwo_D C.2.2.2.2.2.2.1 _ _) hS p0 he hc j hj (C.2.2.2.2.1 _ hl) (fun _ h => h) hfin hi rfl rfl (by rw [mfs_len]; exact hlen) d (fun H1 locs1 hP1 _ hS1 => ?_)
  rw [mwo_set (σ := σ) (τ := mwL σ k j v) C.2.2.2.2.2.2.1.1 hp0 (by rw [hd]; simp only [mce]; rw [mfs_L hf]) mwL_o] at hP1
  exact kk H1 locs1 ls hP1 hS1 hl2
/-! arrays -/
theorem x_iald (C : Cx Y K cc own n) {k z : Nat} {i : Int32} (hk : k ∈ Y.1) (hd : Y.2 k = .inr (.inl (0, z))) (hi : vp_in i z) (d : decode cc pc = .ok (.iaload, 1)) (kk : Wx Y K σ (pc + 1) lv (.int (σ.1 k i.toNatClampNeg) :: st)) : Wx Y K σ pc lv (.int i :: .ref (kad K k) :: st) := by
  intro H locs ls hP hS hl2
  obtain ⟨p0, hp0, he⟩ := mwo_at (ad := kad K) (cy := kcy K) (σ := σ) hk hd
  exact va_iald C.1 C.2.1 C.2.2.2.2.2.1 hP p0 0 he rfl hi d (kk H locs ls hP hS hl2)
theorem x_bald (C : Cx Y K cc own n) {k z : Nat} {i : Int32} (hk : k ∈ Y.1) (hd : Y.2 k = .inr (.inl (1, z))) (hi : vp_in i z) (d : decode cc pc = .ok (.baload, 1)) (kk : Wx Y K σ (pc + 1) lv (.int (σ.1 k i.toNatClampNeg) :: st)) : Wx Y K σ pc lv (.int i :: .ref (kad K k) :: st) := by
  intro H locs ls hP hS hl2
  obtain ⟨p0, hp0, he⟩ := mwo_at (ad := kad K) (cy := kcy K) (σ := σ) hk hd
  exact va_bald C.1 C.2.1 C.2.2.2.2.2.1 hP p0 1 he rfl hi d (kk H locs ls hP hS hl2)
theorem x_iast (C : Cx Y K cc own n) {k z : Nat} {i x : Int32} (hk : k ∈ Y.1) (hd : Y.2 k = .inr (.inl (0, z))) (hi : vp_in i z) (d : decode cc pc = .ok (.iastore, 1)) (kk : Wx Y K (mwI σ k i.toNatClampNeg x) (pc + 1) lv st) : Wx Y K σ pc lv (.int x :: .int i :: .ref (kad K k) :: st) := by
  intro H locs ls hP hS hl2
  obtain ⟨p0, hp0, he⟩ := mwo_at (ad := kad K) (cy := kcy K) (σ := σ) hk hd
  refine va_iast C.1 C.2.1 C.2.2.2.2.2.1 hP (mwo_D C.2.2.2.2.2.2.1 _ _) hS p0 0 he rfl hi d (fun H1 locs1 hP1 _ hS1 => ?_)
  rw [mwo_set (σ := σ) (τ := mwI σ k i.toNatClampNeg x) C.2.2.2.2.2.2.1.1 hp0 (by rw [hd]; simp [mce, mwI, va_up]) mwI_o] at hP1
  exact kk H1 locs1 ls hP1 hS1 hl2
theorem x_bast (C : Cx Y K cc own n) {k z : Nat} {i x : Int32} (hk : k ∈ Y.1) (hd : Y.2 k = .inr (.inl (1, z))) (hi : vp_in i z) (d : decode cc pc = .ok (.bastore, 1)) (kk : Wx Y K (mwI σ k i.toNatClampNeg x.toInt8.toInt32) (pc + 1) lv st) : Wx Y K σ pc lv (.int x :: .int i :: .ref (kad K k) :: st) := by
  intro H locs ls hP hS hl2
  obtain ⟨p0, hp0, he⟩ := mwo_at (ad := kad K) (cy := kcy K) (σ := σ) hk hd
  refine va_bast C.1 C.2.1 C.2.2.2.2.2.1 hP (mwo_D C.2.2.2.2.2.2.1 _ _) hS p0 1 he rfl hi d (fun H1 locs1 hP1 _ hS1 => ?_)
  rw [mwo_set (σ := σ) (τ := mwI σ k i.toNatClampNeg x.toInt8.toInt32) C.2.2.2.2.2.2.1.1 hp0 (by rw [hd, vp_nar_byte]; simp [mce, mwI, va_up]) mwI_o] at hP1
  exact kk H1 locs1 ls hP1 hS1 hl2
theorem x_alen (C : Cx Y K cc own n) {k z b : Nat} {v : Int32} {ty : FieldType} (hk : k ∈ Y.1) (hd : Y.2 k = .inr (.inl (b, z))) (ht : (mty (kcy K))[b]? = some (kcy K b, ty)) (hv : Int32.ofNat z = v) (d : decode cc pc = .ok (.arraylength, 1)) (kk : Wx Y K σ (pc + 1) lv (.int v :: st)) : Wx Y K σ pc lv (.ref (kad K k) :: st) := by
  intro H locs ls hP hS hl2
  obtain ⟨p0, hp0, he⟩ := mwo_at (ad := kad K) (cy := kcy K) (σ := σ) hk hd
  exact va_alen C.1 C.2.1 C.2.2.2.2.2.1 hP p0 b he ht hv d (kk H locs ls hP hS hl2)
theorem x_aald (C : Cx Y K cc own n) {k z b base : Nat} {i : Int32} {ty : FieldType} (hk : k ∈ Y.1) (hd : Y.2 k = .inr (.inr (b, z, base))) (ht : (mty (kcy K))[b]? = some (kcy K b, ty)) (hr : ty.isReference = true) (hi : vp_in i z) (d : decode cc pc = .ok (.aaload, 1)) (kk : Wx Y K σ (pc + 1) lv (.ref (kad K (base + i.toNatClampNeg)) :: st)) : Wx Y K σ pc lv (.int i :: .ref (kad K k) :: st) := by
  intro H locs ls hP hS hl2
  obtain ⟨p0, hp0, he⟩ := mwo_at (ad := kad K) (cy := kcy K) (σ := σ) hk hd
  have hlt : i.toNatClampNeg < z := Nat.not_le.mp fun q => hi (Or.inr q)
  exact W.aald (v := .ref (kad K (base + i.toNatClampNeg))) (ty := ty) C.1 C.2.1 (hP p0 _ he) ((C.2.2.2.2.2.1.2 b _ ht).1 z (fun j => va_rf (some (kad K (base + j))))) hr (fun q => by cases q) (by show ¬ (i < 0 ∨ (arrV _ _ _).slots.size ≤ _); rw [arrV_size]; exact hi) (by show (arrV _ _ _).slots[_]? = _; rw [arrV_read _ _ hlt]; rfl) rfl rfl d (kk H locs ls hP hS hl2)
theorem x_acopy (C : Cx Y K cc own n) {k k2 z z2 i : Nat} {sp dp m : Int32} (hk : k ∈ Y.1) (hd : Y.2 k = .inr (.inl (0, z))) (hk2 : k2 ∈ Y.1) (hd2 : Y.2 k2 = .inr (.inl (0, z2))) (hn : 1 ≤ n) (hl : Cond.methodLink own i arraycopyName ∈ mB) (w1 : Cond.native arraycopyName ∈ mB) (w2 : Cond.static arraycopyName ∈ mB) (w3 : Cond.initialized "java/lang/System" ∈ mB) (h1 : ¬ sp < 0) (h2 : ¬ dp < 0) (h3 : ¬ m < 0) (h4 : sp.toNatClampNeg + m.toNatClampNeg ≤ z) (h5 : dp.toNatClampNeg + m.toNatClampNeg ≤ z2) (hr : (st.map fun v => v.category).sum ≤ 8) (d : decode cc pc = .ok (.invokestatic i, 3)) (kk : Wx Y K (mcp σ k sp.toNatClampNeg k2 dp.toNatClampNeg m.toNatClampNeg) (pc + 3) lv st) : Wx Y K σ pc lv (.int m :: .int dp :: .ref (kad K k2) :: .int sp :: .ref (kad K k) :: st) := by
  intro H locs ls hP hS hl2
  obtain ⟨p0, hp0, he⟩ := mwo_at (ad := kad K) (cy := kcy K) (σ := σ) hk hd
  obtain ⟨p1, hp1, he1⟩ := mwo_at (ad := kad K) (cy := kcy K) (σ := σ) hk2 hd2
  have hf9 : 1 ≤ (kR K).frames := by rw [C.2.2.2.2.2.2.2.2]; exact hn
  have hl9 : (st.map fun v => v.category).sum + (nativeFrameWords "java/lang/System" "arraycopy" 5 + 11) ≤ (kR K).locals := by
    rw [C.2.2.2.2.2.2.2.2]
    show _ ≤ 50 * n
    have h9 : nativeFrameWords "java/lang/System" "arraycopy" 5 ≤ 25 := by decide
    generalize nativeFrameWords "java/lang/System" "arraycopy" 5 = z9 at h9 ⊢
    generalize (List.map (fun v => v.category) st).sum = z8 at hr ⊢
    omega
  refine va_copyi C.1 C.2.1 (C.2.2.1.trans hl2.1.symm) C.2.2.2.1 (C.2.2.2.2.1 _ hl) (C.2.2.2.2.1 _ w1) (C.2.2.2.2.1 _ w2) (C.2.2.2.2.1 _ w3) C.2.2.2.2.2.1 hP (mwo_D C.2.2.2.2.2.2.1 _ _) hS p0 p1 0 0 he he1 rfl rfl rfl h1 h2 h3 h4 h5 (fun _ _ => rfl) hf9 hl9 d (fun H1 locs1 hP1 _ hS1 => ?_)
  rw [mwo_set (σ := σ) (τ := mcp σ k sp.toNatClampNeg k2 dp.toNatClampNeg m.toNatClampNeg) C.2.2.2.2.2.2.1.1 hp1 (by rw [hd2]; simp [mce, mcp, va_up]) (fun k' h => ⟨by simp [mcp, va_up, h], rfl⟩)] at hP1
  exact kk H1 locs1 ls hP1 hS1 hl2
/-! the letters' row -/
theorem x_letget (C : Cx Y K cc own n) {i : Nat} (hl : Cond.fieldLink own i "CalledNumbers" "LETTERS" "[I" ∈ mB) (d : decode cc pc = .ok (.getstatic i, 3)) (kk : ∀ t : Nat, va_T .int t 6 (fun j => .int (mLet j)) (mA Y (kad K)) (ks K) (ks K).heap → Wx Y K σ (pc + 3) lv (.ref t :: st)) : Wx Y K σ pc lv st := by
  intro H locs ls hP hS hl2
  obtain ⟨t, h1, h2⟩ := C.2.2.2.2.2.2.2.1.2.2
  exact va_gets C.1 C.2.1 h1 hS C.2.2.2.1 (C.2.2.2.2.1 _ hl) (fun _ h => h) d (kk t h2 H locs ls hP hS hl2)
theorem x_letald (C : Cx Y K cc own n) {t : Nat} {i : Int32} (hT : va_T .int t 6 (fun j => .int (mLet j)) (mA Y (kad K)) (ks K) (ks K).heap) (hi : vp_in i 6) (d : decode cc pc = .ok (.iaload, 1)) (kk : Wx Y K σ (pc + 1) lv (.int (mLet i.toNatClampNeg) :: st)) : Wx Y K σ pc lv (.int i :: .ref t :: st) := by
  intro H locs ls hP hS hl2
  exact va_ti C.1 C.2.1 hT hS hi rfl d (kk H locs ls hP hS hl2)
/-! returns -/
theorem x_iret (C : Cx Y K cc own n) {v : Int32} (hR : Rx Y K (some .int) (some (.int v)) σ) (d : decode cc pc = .ok (.ireturn, 1)) : Wx Y K σ pc lv [.int v] := by
  intro H locs ls hP hS hl2
  rw [hR.2.2]
  exact W.iret C.1 C.2.1 hR.1 (fun t ht _ => ⟨rfl, by rw [ht]; exact hP, hS.F ht⟩) hS.2.2 d hR.2.1
theorem x_zret (C : Cx Y K cc own n) {v : Int32} (hv : v = 0 ∨ v = 1) (hR : Rx Y K (some .boolean) (some (.int v)) σ) (d : decode cc pc = .ok (.ireturn, 1)) : Wx Y K σ pc lv [.int v] := by
  intro H locs ls hP hS hl2
  rw [hR.2.2]
  exact W.zret C.1 C.2.1 hR.1 (by rcases hv with rfl | rfl <;> rfl) (fun t ht _ => ⟨rfl, by rw [ht]; exact hP, hS.F ht⟩) hS.2.2 d hR.2.1
theorem x_lret (C : Cx Y K cc own n) {v : Int64} (hR : Rx Y K (some .long) (some (.long v)) σ) (d : decode cc pc = .ok (.lreturn, 1)) : Wx Y K σ pc lv [.long v] := by
  intro H locs ls hP hS hl2
  rw [hR.2.2]
  exact W.lret C.1 C.2.1 hR.1 (fun t ht _ => ⟨rfl, by rw [ht]; exact hP, hS.F ht⟩) hS.2.2 d hR.2.1
theorem x_vret (C : Cx Y K cc own n) (hR : Rx Y K none none σ) (d : decode cc pc = .ok (.return_, 1)) : Wx Y K σ pc lv [] := by
  intro H locs ls hP hS hl2
  rw [hR.2.2]
  exact W.vret C.1 C.2.1 hR.1 (fun t ht _ => ⟨rfl, by rw [ht]; exact hP, hS.F ht⟩) hS.2.2 d hR.2.1
theorem x_aret (C : Cx Y K cc own n) {a : Nat} {nm : String} (hR : Rx Y K (some (.object nm)) (some (.ref a)) σ) (d : decode cc pc = .ok (.areturn, 1)) : Wx Y K σ pc lv [.ref a] := by
  intro H locs ls hP hS hl2
  rw [hR.2.2]
  exact W.aret C.1 C.2.1 hR.1 (Or.inl ⟨nm, rfl⟩) (Or.inr ⟨a, rfl⟩) (fun t ht _ => ⟨rfl, by rw [ht]; exact hP, hS.F ht⟩) hS.2.2 d hR.2.1
/-! calls -/
theorem x_run {v : Option Value} (a : Array Value) (hr : ∀ (H : Heap) (locs : List Loc) (ls : Array Slot), va_P (kD K) vwCl (mwo Y (kad K) (kcy K) σ) H → va_S (mA Y (kad K)) (ks K).heap H locs → lv_has ls (kn K) lv → va_Run (kp K) (kl K) (ke K) (kR K) (ks K) (km K) (ka K) (kb K) (kme K) (kc K) H locs 0 0 0 0 (F0 (km K) pc ls st) rest (Qg Y (kD K) (kad K) (kcy K) v τ a) (mA Y (kad K))) (kk : Wx Y K τ (pc + 3) lv (v.toList ++ rest)) : Wx Y K σ pc lv st := by
  intro H locs ls hP hS hl T hT X
  obtain ⟨v', st₀, t, T', L, h0, X', hL, e1, e2, ⟨hv, hP', hz, hk⟩, sg⟩ := hr H locs ls hP hS hl T hT X
  cases hv
  rw [h0] at hz hk
  obtain ⟨t2, a1, b1⟩ := kk T'.heap (locs ++ L) ls (by rw [e1]; exact hP')
    ⟨Nat.le_trans hS.1 (by rw [e1]; exact hz), fun q h1 h2 => by rw [e1, hk q (Nat.lt_of_lt_of_le h1 hS.1) h2]; exact hS.2.1 q h1 h2, fun q hq => by
      rcases List.mem_append.mp hq with h | h
      · exact hS.2.2 q h
      · exact hL q h⟩ hl T' rfl X'
  exact ⟨t2, sg t2 a1, b1⟩
theorem x_pre (C : Cx Y K cc own n) {H : Heap} {locs : List Loc} {av : List Value} (hP : va_P (kD K) vwCl (mwo Y (kad K) (kcy K) σ) H) (hS : va_S (mA Y (kad K)) (ks K).heap H locs) : PreS (ks K) H (va_Pc av (Pg Y (kD K) (kad K) (kcy K) σ)) av := by
  refine ⟨Pg_blind, fun U hU hW => ⟨rfl, by rw [hU]; exact hP, va_K.moved hW.alike C.2.2.2.2.2.1, mT_warm hW (fun a h1 h2 => by rw [hU]; exact hS.2.1 a h1 h2) C.2.2.2.2.2.2.2.1⟩⟩
/-- the callee's room fits -/
theorem x_room (C : Cx Y K cc own n) {nc maxL : Nat} (h : nc < n) (hm : maxL ≤ 31) : (rmN nc).frames + 1 ≤ (kR K).frames ∧ 8 + (maxL + 11) + (rmN nc).locals ≤ (kR K).locals := by
  rw [C.2.2.2.2.2.2.2.2]
  refine ⟨h, ?_⟩
  show 8 + (maxL + 11) + 50 * nc ≤ 50 * n
  omega
/-- a call of an instance method of class Cn, by its own name -/
theorem x_callV (C : Cx Y K cc own n) {y : MethodName} {cd : ByteArray} {maxL nc ar i k ci : Nat} {ret : Option FieldType} {As : List Value} {v : Option Value} {fd : List Nat} {q : vw_C} (hM : MetG (kl K) Y (kD K) (kad K) (kcy K) y cd maxL ret nc (.ref (kad K k) :: As) σ v τ) (hk : k ∈ Y.1) (hd : Y.2 k = .inl (ci, fd)) (hc : vwCl[ci]? = some q) (hy : y.cls = q.1 ∧ y.cls ≠ "java/lang/invoke/MethodHandle" ∧ y.cls ≠ "java/lang/invoke/VarHandle" ∧ (parseMethodDescriptor y.desc).map (fun d => d.parameters.length) = some ar) (hw : Cond.methodLink own i y ∈ mB ∧ Cond.instanceMethod y ∈ mB ∧ Cond.selects q.1 y y ∈ mB ∧ Cond.initialized q.1 ∈ mB ∧ Cond.code y cd maxL ret ∈ mB) (hn : nc < n) (hm : maxL ≤ 31) (ha : As.length = ar) (hst : st = As.reverse ++ .ref (kad K k) :: rest) (hr : (rest.map fun v => v.category).sum ≤ 8) (d : decode cc pc = .ok (.invokevirtual i, 3)) (kk : Wx Y K τ (pc + 3) lv (v.toList ++ rest)) : Wx Y K σ pc lv st := by
  refine x_run ((Value.ref (kad K k) :: As).toArray) (fun H locs ls hP hS hl => ?_) kk
  have hT : GoodIn mB (wsV own i q.1 y (.code y cd maxL ret :: mB)) := mB_in (fun _ h => h) (fun w h => by
    rcases List.mem_append.mp h with h | h
    · simp only [List.mem_cons, List.not_mem_nil, or_false] at h
      rcases h with rfl | rfl | rfl | rfl
      · exact hw.1
      · exact hw.2.1
      · exact hw.2.2.1
      · exact hw.2.2.2.1
    · rcases List.mem_cons.mp h with rfl | h
      · exact hw.2.2.2.2
      · exact h)
  obtain ⟨p0, hp0, he⟩ := mwo_at (ad := kad K) (cy := kcy K) (σ := σ) hk hd
  have hp := x_pre C (av := .ref (kad K k) :: As) hP hS
  exact va_runV (nL := kn K) (cells := 0) (slots := 0) ⟨C.1, C.2.1, C.2.2.1, C.2.2.2.1, C.2.2.2.2.1⟩ hM (cwV ar C.2.2.2.2.1 hT rfl rfl rfl hy (x_room C hn hm)) ⟨hp.1, va_recv C.2.2.2.2.2.1 hP hc he, hp.2⟩ rfl ha hl.1 hst (lv_room hr) d ⟨Nat.zero_le _, Nat.zero_le _⟩
/-- a call of a static method -/
theorem x_callS (C : Cx Y K cc own n) {y : MethodName} {cd : ByteArray} {maxL nc ar i : Nat} {ret : Option FieldType} {As : List Value} {v : Option Value} (hM : MetG (kl K) Y (kD K) (kad K) (kcy K) y cd maxL ret nc As σ v τ) (hy : y.cls ≠ "java/lang/invoke/MethodHandle" ∧ y.cls ≠ "java/lang/invoke/VarHandle" ∧ (parseMethodDescriptor y.desc).map (fun d => d.parameters.length) = some ar) (hw : Cond.methodLink own i y ∈ mB ∧ Cond.static y ∈ mB ∧ Cond.initialized y.cls ∈ mB ∧ Cond.code y cd maxL ret ∈ mB) (hn : nc < n) (hm : maxL ≤ 31) (ha : As.length = ar) (hst : st = As.reverse ++ rest) (hr : (rest.map fun v => v.category).sum ≤ 8) (d : decode cc pc = .ok (.invokestatic i, 3)) (kk : Wx Y K τ (pc + 3) lv (v.toList ++ rest)) : Wx Y K σ pc lv st := by
  refine x_run (As.toArray) (fun H locs ls hP hS hl => ?_) kk
  have hT : GoodIn mB (va_wsS own i y (.code y cd maxL ret :: mB)) := mB_in (fun _ h => h) (fun w h => by
    rcases List.mem_append.mp h with h | h
    · simp only [List.mem_cons, List.not_mem_nil, or_false] at h
      rcases h with rfl | rfl | rfl
      · exact hw.1
      · exact hw.2.1
      · exact hw.2.2.1
    · rcases List.mem_cons.mp h with rfl | h
      · exact hw.2.2.2
      · exact h)
  exact va_runS (nL := kn K) (cells := 0) (slots := 0) ⟨C.1, C.2.1, C.2.2.1, C.2.2.2.1, C.2.2.2.2.1⟩ hM (va_cwS ar C.2.2.2.2.1 hT rfl rfl rfl hy (x_room C hn hm)) (x_pre C hP hS) rfl ha hl.1 hst (lv_room hr) d ⟨Nat.zero_le _, Nat.zero_le _⟩
end XR2
/-! loops -/
def lp {S R : Type} : Nat → (S → Option (S ⊕ R)) → S → Option R
  | 0, _, _ => none
  | n + 1, b, s => match b s with
    | none => none
    | some (.inl s') => lp n b s'
    | some (.inr r) => some r
theorem lp_G {S R : Type} {b : S → Option (S ⊕ R)} {G : S → Prop} {r : R} (hs : ∀ s x, b s = some x → (∀ s', x = .inl s' → G s') → (∀ r', x = .inr r' → r' = r) → G s) : ∀ n s, lp n b s = some r → G s
  | 0, s, h => by cases h
  | n + 1, s, h => by
    unfold lp at h
    cases hb : b s with
    | none => rw [hb] at h; cases h
    | some x =>
      rw [hb] at h
      refine hs s x hb (fun s' e => ?_) (fun r' e => ?_)
      · subst e; exact lp_G hs n s' h
      · subst e; exact Option.some.inj h
def big : Nat := 1000000
theorem ob_if {α : Type} {c : Prop} [Decidable c] {A : Option α} {x : α} (h : (if c then A else none) = some x) : c ∧ A = some x := by
  by_cases hc : c
  · rw [if_pos hc] at h; exact ⟨hc, h⟩
  · rw [if_neg hc] at h; cases h
theorem ob_bind {α β : Type} {A : Option α} {f : α → Option β} {x : β} (h : A.bind f = some x) : ∃ a, A = some a ∧ f a = some x := by
  cases A with
  | none => cases h
  | some a => exact ⟨a, rfl, h⟩
