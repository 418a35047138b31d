/-! the kinds: calls that are looked up by the receiver's class, super's, instanceof, casts -/
section XK
variable {Y : mY} {K : Kx} {cc : ByteArray} {own : String} {n : Nat} {σ τ : mS} {pc : Nat} {lv : List (Nat × Value)} {st rest : List Value}
theorem x_callO (C : Cx Y K cc own n) {x y : MethodName} {owner : String} {cd b0 : ByteArray} {maxL nc ar i k ci m0 : Nat} {ret r0 : Option FieldType} {As : List Value} {v : Option Value} {fd : List Nat} {q : vw_C} (hM : MetG (kl K) Y (kD K) (kad K) (kcy K) y cd maxL ret nc (.ref (kad K k) :: As) σ v τ) (hk : k ∈ Y.1) (hd : Y.2 k = .inl (ci, fd)) (hc : vwCl[ci]? = some q) (hy : owner ≠ "java/lang/invoke/MethodHandle" ∧ owner ≠ "java/lang/invoke/VarHandle" ∧ (parseMethodDescriptor x.desc).map (fun d => d.parameters.length) = some ar) (w1 : Cond.methodLink own i x ∈ mB) (w2 : Cond.sameMethod x.cls owner x.name x.desc ∈ mB) (w3 : Cond.instanceMethod ⟨owner, x.name, x.desc⟩ ∈ mB) (w4 : Cond.selects q.1 x y ∈ mB) (w5 : Cond.instanceMethod y ∈ mB) (w6 : Cond.initialized y.cls ∈ mB) (w7 : Cond.code y cd maxL ret ∈ mB) (w8 : Cond.code ⟨owner, x.name, x.desc⟩ b0 m0 r0 ∈ mB) (hn : nc < n) (hm : maxL ≤ 31) (ha : As.length = ar) (hst : st = As.reverse ++ .ref (kad K k) :: rest) (hr : (rest.map fun v => v.category).sum ≤ 8) (d : decode cc pc = .ok (.invokevirtual i, 3)) (kk : Wx Y K τ (pc + 3) lv (v.toList ++ rest)) : Wx Y K σ pc lv st := by
  refine x_run ((Value.ref (kad K k) :: As).toArray) (fun H locs ls hP hS hl => ?_) kk
  have hT : GoodIn mB (va_wsO own i q.1 owner x y (.code y cd maxL ret :: mB)) := mB_in (fun _ h => h) (fun w h => by
    rcases List.mem_append.mp h with h | h
    · simp only [List.mem_cons, List.not_mem_nil, or_false] at h
      rcases h with rfl | rfl | rfl | rfl | rfl | rfl
      · exact w1
      · exact w2
      · exact w3
      · exact w4
      · exact w5
      · exact w6
    · rcases List.mem_cons.mp h with rfl | h
      · exact w7
      · exact h)
  obtain ⟨p0, hp0, he⟩ := mwo_at (ad := kad K) (cy := kcy K) (σ := σ) hk hd
  have hp := x_pre C (av := .ref (kad K k) :: As) hP hS
  exact va_runU (nL := kn K) (cells := 0) (slots := 0) ⟨C.1, C.2.1, C.2.2.1, C.2.2.2.1, C.2.2.2.2.1⟩ hM (va_cwO ar C.2.2.2.2.1 hT rfl rfl rfl w8 hy (x_room C hn hm)) ⟨hp.1, va_recv C.2.2.2.2.2.1 hP hc he, hp.2⟩ rfl ha hl.1 hst (lv_room hr) d ⟨Nat.zero_le _, Nat.zero_le _⟩
theorem x_callSU (C : Cx Y K cc own n) {y : MethodName} {cd : ByteArray} {maxL nc ar i k ci : Nat} {ret : Option FieldType} {As : List Value} {v : Option Value} {fd : List Nat} {q : vw_C} (hM : MetG (kl K) Y (kD K) (kad K) (kcy K) y cd maxL ret nc (.ref (kad K k) :: As) σ v τ) (hk : k ∈ Y.1) (hd : Y.2 k = .inl (ci, fd)) (hc : vwCl[ci]? = some q) (hy : y.name ≠ "<init>" ∧ (parseMethodDescriptor y.desc).map (fun d => d.parameters.length) = some ar) (w1 : Cond.methodLink own i y ∈ mB) (w2 : Cond.sameMethod y.cls y.cls y.name y.desc ∈ mB) (w3 : Cond.superclass own y.cls ∈ mB) (w5 : Cond.instanceMethod y ∈ mB) (w6 : Cond.initialized y.cls ∈ mB) (w7 : Cond.code y cd maxL ret ∈ mB) (hn : nc < n) (hm : maxL ≤ 31) (ha : As.length = ar) (hst : st = As.reverse ++ .ref (kad K k) :: rest) (hr : (rest.map fun v => v.category).sum ≤ 8) (d : decode cc pc = .ok (.invokespecial i, 3)) (kk : Wx Y K τ (pc + 3) lv (v.toList ++ rest)) : Wx Y K σ pc lv st := by
  refine x_run ((Value.ref (kad K k) :: As).toArray) (fun H locs ls hP hS hl => ?_) kk
  have hT : GoodIn mB (va_wsSU own i y (.code y cd maxL ret :: mB)) := mB_in (fun _ h => h) (fun w h => by
    rcases List.mem_append.mp h with h | h
    · simp only [List.mem_cons, List.not_mem_nil, or_false] at h
      rcases h with rfl | rfl | rfl | rfl | rfl
      · exact w1
      · exact w2
      · exact w3
      · exact w5
      · exact w6
    · rcases List.mem_cons.mp h with rfl | h
      · exact w7
      · exact h)
  obtain ⟨p0, hp0, he⟩ := mwo_at (ad := kad K) (cy := kcy K) (σ := σ) hk hd
  have hp := x_pre C (av := .ref (kad K k) :: As) hP hS
  exact va_runSU (nL := kn K) (cells := 0) (slots := 0) (C.2.2.2.2.2.1.1 ci q hc).2 ⟨C.1, C.2.1, C.2.2.1, C.2.2.2.1, C.2.2.2.2.1⟩ hM (va_cwSU ar C.2.2.2.2.1 hT rfl rfl rfl hy (x_room C hn hm)) ⟨hp.1, va_recv C.2.2.2.2.2.1 hP hc he, hp.2⟩ rfl ha hl.1 hst (lv_room hr) d ⟨Nat.zero_le _, Nat.zero_le _⟩
theorem x_instY (C : Cx Y K cc own n) {k ci i : Nat} {nm : String} {fd : List Nat} {q : vw_C} (hk : k ∈ Y.1) (hd : Y.2 k = .inl (ci, fd)) (hc : vwCl[ci]? = some q) (hca : Cond.castable q.1 nm ∈ mNs) (hl : Cond.classLink own i nm ∈ mB) (d : decode cc pc = .ok (.instanceof i, 3)) (kk : Wx Y K σ (pc + 3) lv (.int 1 :: st)) : Wx Y K σ pc lv (.ref (kad K k) :: st) := by
  intro H locs ls hP hS hl2
  obtain ⟨p0, hp0, he⟩ := mwo_at (ad := kad K) (cy := kcy K) (σ := σ) hk hd
  exact va_instY C.1 C.2.1 C.2.2.2.1 (C.2.2.2.2.1 _ hl) (C.2.2.2.2.2.2.2.1.1 _ hca) (va_recv C.2.2.2.2.2.1 hP hc he) d (kk H locs ls hP hS hl2)
theorem x_instS (C : Cx Y K cc own n) {k ci i : Nat} {fd : List Nat} {q : vw_C} (hk : k ∈ Y.1) (hd : Y.2 k = .inl (ci, fd)) (hc : vwCl[ci]? = some q) (hl : Cond.classLink own i q.1 ∈ mB) (d : decode cc pc = .ok (.instanceof i, 3)) (kk : Wx Y K σ (pc + 3) lv (.int 1 :: st)) : Wx Y K σ pc lv (.ref (kad K k) :: st) := by
  intro H locs ls hP hS hl2
  obtain ⟨p0, hp0, he⟩ := mwo_at (ad := kad K) (cy := kcy K) (σ := σ) hk hd
  exact va_instS C.1 C.2.1 C.2.2.2.1 (C.2.2.2.2.1 _ hl) (C.2.2.2.2.2.1.1 ci q hc).2 (va_recv C.2.2.2.2.2.1 hP hc he) d (kk H locs ls hP hS hl2)
theorem x_instNo (C : Cx Y K cc own n) {k ci i : Nat} {nm : String} {fd : List Nat} {q : vw_C} (hk : k ∈ Y.1) (hd : Y.2 k = .inl (ci, fd)) (hc : vwCl[ci]? = some q) (hca : (q.1, nm) ∈ mNc) (hl : Cond.classLink own i nm ∈ mB) (d : decode cc pc = .ok (.instanceof i, 3)) (kk : Wx Y K σ (pc + 3) lv (.int 0 :: st)) : Wx Y K σ pc lv (.ref (kad K k) :: st) := by
  intro H locs ls hP hS hl2
  obtain ⟨p0, hp0, he⟩ := mwo_at (ad := kad K) (cy := kcy K) (σ := σ) hk hd
  exact va_instNo C.1 C.2.1 C.2.2.2.1 (C.2.2.2.2.1 _ hl) (C.2.2.2.2.2.2.2.1.2.1 (q.1, nm) hca) (va_recv C.2.2.2.2.2.1 hP hc he) d (kk H locs ls hP hS hl2)
theorem x_castY (C : Cx Y K cc own n) {k ci i : Nat} {nm : String} {fd : List Nat} {q : vw_C} (hk : k ∈ Y.1) (hd : Y.2 k = .inl (ci, fd)) (hc : vwCl[ci]? = some q) (hca : Cond.castable q.1 nm ∈ mNs) (hl : Cond.classLink own i nm ∈ mB) (d : decode cc pc = .ok (.checkcast i, 3)) (kk : Wx Y K σ (pc + 3) lv (.ref (kad K k) :: st)) : Wx Y K σ pc lv (.ref (kad K k) :: st) := by
  intro H locs ls hP hS hl2
  obtain ⟨p0, hp0, he⟩ := mwo_at (ad := kad K) (cy := kcy K) (σ := σ) hk hd
  exact va_castY C.1 C.2.1 C.2.2.2.1 (C.2.2.2.2.1 _ hl) (C.2.2.2.2.2.2.2.1.1 _ hca) (va_recv C.2.2.2.2.2.1 hP hc he) d (kk H locs ls hP hS hl2)
theorem x_castS (C : Cx Y K cc own n) {k ci i : Nat} {fd : List Nat} {q : vw_C} (hk : k ∈ Y.1) (hd : Y.2 k = .inl (ci, fd)) (hc : vwCl[ci]? = some q) (hl : Cond.classLink own i q.1 ∈ mB) (d : decode cc pc = .ok (.checkcast i, 3)) (kk : Wx Y K σ (pc + 3) lv (.ref (kad K k) :: st)) : Wx Y K σ pc lv (.ref (kad K k) :: st) := by
  intro H locs ls hP hS hl2
  obtain ⟨p0, hp0, he⟩ := mwo_at (ad := kad K) (cy := kcy K) (σ := σ) hk hd
  exact va_castS C.1 C.2.1 C.2.2.2.1 (C.2.2.2.2.1 _ hl) (C.2.2.2.2.2.1.1 ci q hc).2 (va_recv C.2.2.2.2.2.1 hP hc he) d (kk H locs ls hP hS hl2)
end XK
