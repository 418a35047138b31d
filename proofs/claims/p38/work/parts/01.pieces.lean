/-! DECODE BY PIECES: where the bytes of a short array lie in a method's code, decode reads there what it reads in the short one -/
/-- what r' reads in c' from p, r reads in c from a + p -/
def DzSim (c c' : ByteArray) (a : Nat) {α : Type} (r r' : Decoder α) : Prop := ∀ p x q, r' c' p = .ok (x, q) → r c (a + p) = .ok (x, a + q)
section
variable {c c' : ByteArray} {a : Nat} {α β : Type}
theorem DzSim.pure {x : α} : DzSim c c' a (Pure.pure x : Decoder α) (Pure.pure x) := by
  intro p y q h
  cases h
  rfl
theorem DzSim.throw {r : Decoder α} {e : DecodeError} : DzSim c c' a r (throw e) := by
  intro p y q h
  cases h
theorem DzSim.bind {r r' : Decoder α} {f f' : α → Decoder β} (h1 : DzSim c c' a r r') (h2 : ∀ x, DzSim c c' a (f x) (f' x)) : DzSim c c' a (r >>= f) (r' >>= f') := by
  intro p y q h
  cases e : r' c' p with
  | error _ =>
    have h : (Bind.bind (r' c' p) (fun z => f' z.1 c' z.2)) = .ok (y, q) := h
    rw [e] at h
    cases h
  | ok z =>
    have h : (Bind.bind (r' c' p) (fun z => f' z.1 c' z.2)) = .ok (y, q) := h
    rw [e] at h
    show (Bind.bind (r c (a + p)) (fun z => f z.1 c z.2)) = .ok (y, a + q)
    rw [h1 p z.1 z.2 e]
    exact h2 z.1 z.2 y q h
theorem DzSim.map {r r' : Decoder α} {f : α → β} (h1 : DzSim c c' a r r') : DzSim c c' a (f <$> r) (f <$> r') := by
  intro p y q h
  have h : (Functor.map (fun z : α × Nat => (f z.1, z.2)) (r' c' p)) = .ok (y, q) := h
  show (Functor.map (fun z : α × Nat => (f z.1, z.2)) (r c (a + p))) = .ok (y, a + q)
  cases e : r' c' p with
  | error _ => rw [e] at h; cases h
  | ok z =>
    rw [e] at h; rw [h1 p z.1 z.2 e]
    cases h; rfl
theorem DzSim.dite {P : Prop} {d : Decidable P} {r r' : P → Decoder α} {s s' : ¬ P → Decoder α} (h1 : ∀ h, DzSim c c' a (r h) (r' h)) (h2 : ∀ h, DzSim c c' a (s h) (s' h)) : DzSim c c' a (dite P r s) (dite P r' s') := by
  by_cases h : P
  · rw [dif_pos h, dif_pos h]; exact h1 h
  · rw [dif_neg h, dif_neg h]; exact h2 h
theorem DzSim.ite {P : Prop} {d : Decidable P} {r r' s s' : Decoder α} (h1 : DzSim c c' a r r') (h2 : DzSim c c' a s s') : DzSim c c' a (ite P r s) (ite P r' s') := by
  by_cases h : P
  · rw [if_pos h, if_pos h]; exact h1
  · rw [if_neg h, if_neg h]; exact h2
/-- c' lies in c at a -/
def DzLies (c c' : ByteArray) (a : Nat) : Prop := a + c'.size ≤ c.size ∧ ∀ k (h : k < c'.size) (h2 : a + k < c.size), c[a + k] = c'[k]
theorem DzSim.u1 (H : DzLies c c' a) : DzSim c c' a (Reader.u1 : Decoder Nat) Reader.u1 := by
  intro p y q h
  have e : ∀ (b : ByteArray) (n : Nat), (Reader.u1 : Decoder Nat) b n = if h : n < b.size then .ok (b[n].toNat, n + 1) else .error (HasTruncated.truncated n) := by
    intro b n
    unfold Reader.u1
    by_cases hb : n < b.size
    · rw [dif_pos hb]
      show (_root_.dite (n < b.size) _ _ : Decoder Nat) b n = _
      rw [dif_pos hb]; rfl
    · rw [dif_neg hb]
      show (_root_.dite (n < b.size) _ _ : Decoder Nat) b n = _
      rw [dif_neg hb]; rfl
  rw [e] at h ⊢
  by_cases hp : p < c'.size
  · rw [dif_pos hp] at h
    rw [dif_pos (Nat.lt_of_lt_of_le (Nat.add_lt_add_left hp a) H.1), H.2 p hp]
    cases h; rfl
  · rw [dif_neg hp] at h; cases h
theorem DzSim.u2 (H : DzLies c c' a) : DzSim c c' a (Reader.u2 : Decoder Nat) Reader.u2 := DzSim.bind (DzSim.u1 H) fun _ => DzSim.bind (DzSim.u1 H) fun _ => DzSim.pure
theorem DzSim.u4 (H : DzLies c c' a) : DzSim c c' a (Reader.u4 : Decoder Nat) Reader.u4 := DzSim.bind (DzSim.u2 H) fun _ => DzSim.bind (DzSim.u2 H) fun _ => DzSim.pure
theorem DzSim.s1 (H : DzLies c c' a) : DzSim c c' a (Reader.s1 : Decoder Int) Reader.s1 := DzSim.map (DzSim.u1 H)
theorem DzSim.s2 (H : DzLies c c' a) : DzSim c c' a (Reader.s2 : Decoder Int) Reader.s2 := DzSim.map (DzSim.u2 H)
theorem DzSim.s4 (H : DzLies c c' a) : DzSim c c' a (Reader.s4 : Decoder Int) Reader.s4 := DzSim.map (DzSim.u4 H)
theorem DzSim.newarray (H : DzLies c c' a) {m n : Nat} : DzSim c c' a (Decoder.newarray m) (Decoder.newarray n) := by
  refine DzSim.bind (DzSim.u1 H) fun x => ?_
  unfold Decoder.newarray.match_1
  repeat' first | exact DzSim.pure | exact DzSim.throw | (refine DzSim.dite ?_ ?_ <;> intro h <;> try subst h)
theorem DzSim.multi (H : DzLies c c' a) {m n : Nat} : DzSim c c' a (Decoder.multianewarray m) (Decoder.multianewarray n) :=
  DzSim.bind (DzSim.u2 H) fun _ => DzSim.bind (DzSim.u1 H) fun _ => DzSim.ite DzSim.pure (DzSim.bind (DzSim.throw) fun _ => DzSim.pure)
theorem DzSim.iface (H : DzLies c c' a) {m n : Nat} : DzSim c c' a (Decoder.invokeinterface m) (Decoder.invokeinterface n) :=
  DzSim.bind (DzSim.u2 H) fun _ => DzSim.bind (DzSim.u1 H) fun _ => DzSim.bind (DzSim.u1 H) fun _ => DzSim.ite DzSim.pure (DzSim.bind (DzSim.throw) fun _ => DzSim.pure)
theorem DzSim.idyn (H : DzLies c c' a) {m n : Nat} : DzSim c c' a (Decoder.invokedynamic m) (Decoder.invokedynamic n) :=
  DzSim.bind (DzSim.u2 H) fun _ => DzSim.bind (DzSim.u2 H) fun _ => DzSim.ite DzSim.pure (DzSim.bind (DzSim.throw) fun _ => DzSim.pure)
theorem DzSim.wide (H : DzLies c c' a) {m n : Nat} : DzSim c c' a (Decoder.wide m) (Decoder.wide n) := by
  refine DzSim.bind (DzSim.u1 H) fun x => ?_
  unfold Decoder.wide.match_1
  repeat' first | exact DzSim.pure | exact DzSim.throw | exact DzSim.bind (DzSim.u2 H) fun _ => DzSim.pure | exact DzSim.bind (DzSim.u2 H) fun _ => DzSim.bind (DzSim.s2 H) fun _ => DzSim.pure | (refine DzSim.dite ?_ ?_ <;> intro h <;> try subst h)
/-- the same, at one place alone -/
def DzAt (c c' : ByteArray) (a p : Nat) {α : Type} (r r' : Decoder α) : Prop := ∀ x q, r' c' p = .ok (x, q) → r c (a + p) = .ok (x, a + q)
theorem DzAt.bind {r : Decoder α} {f f' : α → Decoder β} {p q : Nat} (v : α) (h1 : r c' p = .ok (v, q)) (h : DzSim c c' a r r) (h2 : DzSim c c' a (f v) (f' v)) : DzAt c c' a p (r >>= f) (r >>= f') := by
  intro y q' e
  have e : (Bind.bind (r c' p) (fun z => f' z.1 c' z.2)) = .ok (y, q') := e
  rw [h1] at e
  show (Bind.bind (r c (a + p)) (fun z => f z.1 c z.2)) = .ok (y, a + q')
  rw [h p v q h1]
  exact h2 q y q' e
/-- the bytes of one instruction that is no switch -/
abbrev DzI (l : List UInt8) (i : Instr) (n : Nat) : Prop := decode (.mk ⟨l⟩) 0 = .ok (i, n) ∧ l.head? ≠ some 170 ∧ l.head? ≠ some 171
set_option maxHeartbeats 4000000 in
set_option maxRecDepth 100000 in
theorem DzAt.instr {b : UInt8} {l : List UInt8} {m n : Nat} (H : DzLies c (.mk ⟨b :: l⟩) a) (h1 : b.toNat ≠ 170) (h2 : b.toNat ≠ 171) : DzAt c (.mk ⟨b :: l⟩) a 0 (Decoder.instr m) (Decoder.instr n) := by
  refine DzAt.bind (r := Reader.u1) (q := 1) b.toNat rfl (DzSim.u1 H) ?_
  generalize b.toNat = x at h1 h2
  unfold Decoder.instr.match_1
  repeat' first | (with_reducible refine DzSim.dite ?_ ?_ <;> intro h <;> try subst h) | with_reducible exact DzSim.pure | with_reducible exact DzSim.throw | with_reducible exact DzSim.newarray H | with_reducible exact DzSim.multi H | with_reducible exact DzSim.iface H | with_reducible exact DzSim.idyn H | with_reducible exact DzSim.wide H | exact absurd rfl h1 | exact absurd rfl h2 | with_reducible exact DzSim.bind (DzSim.u2 H) fun _ => DzSim.pure | with_reducible exact DzSim.bind (DzSim.u1 H) fun _ => DzSim.pure | with_reducible exact DzSim.bind (DzSim.s1 H) fun _ => DzSim.pure | with_reducible exact DzSim.bind (DzSim.s2 H) fun _ => DzSim.pure | with_reducible exact DzSim.bind (DzSim.s4 H) fun _ => DzSim.pure | with_reducible exact DzSim.bind (DzSim.u1 H) fun _ => DzSim.bind (DzSim.s1 H) fun _ => DzSim.pure
theorem dz0 {l : List UInt8} {i : Instr} {n : Nat} (H : DzLies c (.mk ⟨l⟩) a) (hd : DzI l i n) : decode c a = .ok (i, n) := by
  obtain ⟨h, h1, h2⟩ := hd
  cases l with
  | nil => cases h
  | cons b l =>
    have h1 : b.toNat ≠ 170 := fun h => h1 (congrArg some (UInt8.toNat_inj.mp h))
    have h2 : b.toNat ≠ 171 := fun h => h2 (congrArg some (UInt8.toNat_inj.mp h))
    have h : (Bind.bind ((Decoder.instr 0) (.mk ⟨b :: l⟩) 0) (fun z => (Except.ok (z.1, z.2 - 0) : Except DecodeError (Instr × Nat)))) = .ok (i, n) := h
    show (Bind.bind ((Decoder.instr a) c (a + 0)) (fun z => (Except.ok (z.1, z.2 - a) : Except DecodeError (Instr × Nat)))) = .ok (i, n)
    cases e : (Decoder.instr 0) (.mk ⟨b :: l⟩) 0 with
    | error _ => rw [e] at h; cases h
    | ok z =>
      rw [e] at h
      rw [DzAt.instr H h1 h2 (m := a) z.1 z.2 e]
      have h : Except.ok (ε := DecodeError) (z.1, z.2 - 0) = .ok (i, n) := h
      show Except.ok (ε := DecodeError) (z.1, a + z.2 - a) = .ok (i, n)
      rw [Nat.add_sub_cancel_left]
      exact h
theorem dz_lies {l : List UInt8} {m : Nat} (h0 : 0 < l.length) (h : (c.data.toList.drop a).take m = l) : DzLies c (.mk ⟨l⟩) a := by
  have hlen : l.length ≤ c.data.toList.length - a := by
    rw [← h, List.length_take, List.length_drop]
    exact Nat.min_le_right _ _
  have hs : (ByteArray.mk ⟨l⟩).size = l.length := rfl
  have hc : c.size = c.data.toList.length := rfl
  refine ⟨by rw [hs, hc]; omega, fun k hk hk2 => ?_⟩
  have e1 : (ByteArray.mk ⟨l⟩)[k] = l[k]'(by rw [← hs]; exact hk) := rfl
  have e2 : c[a + k] = c.data.toList[a + k]'(by rw [← hc]; exact hk2) := rfl
  rw [e1, e2]
  subst h
  rw [List.getElem_take, List.getElem_drop]
theorem DzLies.trans {b d : ByteArray} {k : Nat} (h1 : DzLies c b a) (h2 : DzLies b d k) : DzLies c d (a + k) := by
  refine ⟨by have := h1.1; have := h2.1; omega, fun j hj hj2 => ?_⟩
  have hb : k + j < b.size := Nat.lt_of_lt_of_le (Nat.add_lt_add_left hj k) h2.1
  rw [← h2.2 j hj hb, ← h1.2 (k + j) hb (Nat.lt_of_lt_of_le (Nat.add_lt_add_left hb a) h1.1)]
  congr 1
  omega
/-- an instruction in a piece of a code -/
theorem dz1 {l b : List UInt8} {k m n : Nat} {i : Instr} (H : DzLies c (.mk ⟨l⟩) a) (hd : DzI b i n) (h0 : 0 < b.length) (h : (l.drop k).take m = b) : decode c (a + k) = .ok (i, n) :=
  dz0 (DzLies.trans H (dz_lies (c := .mk ⟨l⟩) h0 h)) hd
end
