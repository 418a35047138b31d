/-! MY OWN LAYER. A memory is ints and longs by cell number and place; a layout says what each cell is; a world is the layout's cells at addresses 'ad'. Wx: the walk's goal over it. -/
abbrev mS : Type := (Nat → Nat → Int32) × (Nat → Nat → Int64)
/-- a cell: an object (its kind's number, its fields: 0 an int, 1 a long, k + 2 a reference to cell k), an array of ints or bytes (its kind's number, its length), an array of references to cells base, base + 1 .. -/
abbrev mD : Type := (Nat × List Nat) ⊕ ((Nat × Nat) ⊕ (Nat × Nat × Nat))
abbrev mY : Type := List Nat × (Nat → mD)
def mwI (σ : mS) (k j : Nat) (v : Int32) : mS := (va_up σ.1 k (upd (σ.1 k) j v), σ.2)
def mwL (σ : mS) (k j : Nat) (v : Int64) : mS := (σ.1, va_up σ.2 k (vp_updL (σ.2 k) j v))
def mfv (ad : Nat → Nat) (σ : mS) (k j : Nat) : Nat → Value
  | 0 => .int (σ.1 k j)
  | 1 => .long (σ.2 k j)
  | n + 2 => .ref (ad n)
def mfs (ad : Nat → Nat) (σ : mS) (k : Nat) : Nat → List Nat → List Value
  | _, [] => []
  | j, d :: l => mfv ad σ k j d :: mfs ad σ k (j + 1) l
def mce (ad : Nat → Nat) (cy : Nat → ClassId) (σ : mS) (k : Nat) : mD → va_E
  | .inl o => .inr (o.1, mfs ad σ k 0 o.2)
  | .inr (.inl a) => .inl (cy a.1, a.2, .inl (σ.1 k))
  | .inr (.inr a) => .inl (cy a.1, a.2.1, .inr (.inr (.inr (.inr (fun i => some (ad (a.2.2 + i)))))))
def mwo (Y : mY) (ad : Nat → Nat) (cy : Nat → ClassId) (σ : mS) : va_W := Y.1.map (fun k => (ad k, mce ad cy σ k (Y.2 k)))
def mA (Y : mY) (ad : Nat → Nat) : Nat → Prop := fun q => ∃ k, k ∈ Y.1 ∧ ad k = q
def mJ (Y : mY) (ad : Nat → Nat) : Prop := va_nd Y.1 = true ∧ ∀ i, i ∈ Y.1 → ∀ j, j ∈ Y.1 → ad i = ad j → i = j
theorem mfs_len (ad : Nat → Nat) (σ : mS) (k : Nat) : ∀ (l : List Nat) (j : Nat), (mfs ad σ k j l).length = l.length
  | [], _ => rfl
  | _ :: l, j => by
    show (mfs ad σ k (j + 1) l).length + 1 = l.length + 1
    rw [mfs_len ad σ k l (j + 1)]
theorem mfs_at (ad : Nat → Nat) (σ : mS) (k : Nat) : ∀ (l : List Nat) (j i : Nat), (mfs ad σ k j l)[i]? = (l[i]?).map (mfv ad σ k (j + i))
  | [], _, _ => by simp [mfs]
  | d :: l, j, 0 => by simp [mfs]
  | d :: l, j, i + 1 => by
    show (mfv ad σ k j d :: mfs ad σ k (j + 1) l)[i + 1]? = ((d :: l)[i + 1]?).map _
    rw [List.getElem?_cons_succ, List.getElem?_cons_succ, mfs_at ad σ k l (j + 1) i]
    rw [show j + 1 + i = j + (i + 1) by omega]
theorem mfv_I {ad : Nat → Nat} {σ : mS} {k j : Nat} {v : Int32} {i d : Nat} (h : i ≠ j) : mfv ad (mwI σ k j v) k i d = mfv ad σ k i d := by
  match d with
  | 0 => simp [mfv, mwI, va_up, upd, h]
  | 1 => rfl
  | n + 2 => rfl
theorem mfv_L {ad : Nat → Nat} {σ : mS} {k j : Nat} {v : Int64} {i d : Nat} (h : i ≠ j) : mfv ad (mwL σ k j v) k i d = mfv ad σ k i d := by
  match d with
  | 0 => rfl
  | 1 => simp [mfv, mwL, va_up, vp_updL, h]
  | n + 2 => rfl
theorem mfs_I {ad : Nat → Nat} {σ : mS} {k j : Nat} {v : Int32} {l : List Nat} (h : l[j]? = some 0) : mfs ad (mwI σ k j v) k 0 l = (mfs ad σ k 0 l).set j (.int v) := by
  apply List.ext_getElem?
  intro i
  rw [mfs_at, List.getElem?_set, mfs_len, mfs_at]
  by_cases hi : j = i
  · subst hi
    have hl : j < l.length := (List.getElem?_eq_some_iff.mp h).1
    rw [if_pos rfl, if_pos hl, h]
    simp [mfv, mwI, va_up, upd]
  · rw [if_neg hi, Nat.zero_add]
    cases hd : l[i]? with
    | none => rfl
    | some d => simp only [Option.map_some]; rw [mfv_I (Ne.symm hi)]
theorem mfs_L {ad : Nat → Nat} {σ : mS} {k j : Nat} {v : Int64} {l : List Nat} (h : l[j]? = some 1) : mfs ad (mwL σ k j v) k 0 l = (mfs ad σ k 0 l).set j (.long v) := by
  apply List.ext_getElem?
  intro i
  rw [mfs_at, List.getElem?_set, mfs_len, mfs_at]
  by_cases hi : j = i
  · subst hi
    have hl : j < l.length := (List.getElem?_eq_some_iff.mp h).1
    rw [if_pos rfl, if_pos hl, h]
    simp [mfv, mwL, va_up, vp_updL]
  · rw [if_neg hi, Nat.zero_add]
    cases hd : l[i]? with
    | none => rfl
    | some d => simp only [Option.map_some]; rw [mfv_L (Ne.symm hi)]
theorem mfs_other {ad : Nat → Nat} {σ τ : mS} {k : Nat} (h1 : τ.1 k = σ.1 k) (h2 : τ.2 k = σ.2 k) : ∀ (l : List Nat) (j : Nat), mfs ad τ k j l = mfs ad σ k j l
  | [], _ => rfl
  | d :: l, j => by
    show mfv ad τ k j d :: mfs ad τ k (j + 1) l = mfv ad σ k j d :: mfs ad σ k (j + 1) l
    rw [mfs_other h1 h2 l (j + 1)]
    congr 1
    match d with
    | 0 => simp [mfv, h1]
    | 1 => simp [mfv, h2]
    | n + 2 => rfl
theorem mce_other {ad : Nat → Nat} {cy : Nat → ClassId} {σ τ : mS} {k : Nat} (h1 : τ.1 k = σ.1 k) (h2 : τ.2 k = σ.2 k) (d : mD) : mce ad cy τ k d = mce ad cy σ k d := by
  match d with
  | .inl o => simp only [mce]; rw [mfs_other h1 h2]
  | .inr (.inl a) => simp only [mce]; rw [h1]
  | .inr (.inr a) => rfl
theorem mwo_at {Y : mY} {ad : Nat → Nat} {cy : Nat → ClassId} {σ : mS} {k : Nat} {d : mD} (hk : k ∈ Y.1) (hd : Y.2 k = d) : ∃ i : Nat, Y.1[i]? = some k ∧ (mwo Y ad cy σ)[i]? = some (ad k, mce ad cy σ k d) := by
  obtain ⟨i, hi⟩ := List.getElem?_of_mem hk
  refine ⟨i, hi, ?_⟩
  unfold mwo
  rw [List.getElem?_map, hi, ← hd]
  rfl
theorem mwo_set {Y : mY} {ad : Nat → Nat} {cy : Nat → ClassId} {σ τ : mS} {k i : Nat} {e : va_E} (hn : va_nd Y.1 = true) (hi : Y.1[i]? = some k) (he : mce ad cy τ k (Y.2 k) = e) (ho : ∀ k', k' ≠ k → τ.1 k' = σ.1 k' ∧ τ.2 k' = σ.2 k') : (mwo Y ad cy σ).set i (ad k, e) = mwo Y ad cy τ := by
  apply List.ext_getElem?
  intro j
  unfold mwo
  rw [List.getElem?_set, List.length_map, List.getElem?_map, List.getElem?_map]
  by_cases hj : i = j
  · subst hj
    rw [if_pos rfl, if_pos (List.getElem?_eq_some_iff.mp hi).1, hi]
    simp [he]
  · rw [if_neg hj]
    cases hx : Y.1[j]? with
    | none => rfl
    | some k' =>
      have hne : k' ≠ k := fun h => hj (va_nd_inj Y.1 hn i j k hi (by rw [hx, h]))
      simp only [Option.map_some]
      rw [mce_other (ho k' hne).1 (ho k' hne).2]
theorem mwI_o {σ : mS} {k j : Nat} {v : Int32} : ∀ k', k' ≠ k → (mwI σ k j v).1 k' = σ.1 k' ∧ (mwI σ k j v).2 k' = σ.2 k' := fun k' h => ⟨by simp [mwI, va_up, h], rfl⟩
theorem mwL_o {σ : mS} {k j : Nat} {v : Int64} : ∀ k', k' ≠ k → (mwL σ k j v).1 k' = σ.1 k' ∧ (mwL σ k j v).2 k' = σ.2 k' := fun k' h => ⟨rfl, by simp [mwL, va_up, h]⟩
theorem mwo_D {Y : mY} {ad : Nat → Nat} (hJ : mJ Y ad) (cy : Nat → ClassId) (σ : mS) : va_D (mA Y ad) (mwo Y ad cy σ) := by
  have key : ∀ (i : Nat) (p : Nat × va_E), (mwo Y ad cy σ)[i]? = some p → ∃ k, Y.1[i]? = some k ∧ p.1 = ad k := by
    intro i p h
    unfold mwo at h
    rw [List.getElem?_map] at h
    cases hx : Y.1[i]? with
    | none => rw [hx] at h; cases h
    | some k => rw [hx] at h; cases h; exact ⟨k, rfl, rfl⟩
  refine ⟨fun i j p q hi hj e => ?_, fun i p hi => ?_⟩
  · obtain ⟨a, h1, h2⟩ := key i p hi
    obtain ⟨b, h3, h4⟩ := key j q hj
    have hab : a = b := hJ.2 a (List.mem_of_getElem? h1) b (List.mem_of_getElem? h3) (by rw [← h2, ← h4]; exact e)
    subst hab
    exact va_nd_inj Y.1 hJ.1 i j a h1 h3
  · obtain ⟨a, h1, h2⟩ := key i p hi
    exact ⟨a, List.mem_of_getElem? h1, h2.symm⟩
/-! the words that every method has -/
def mB : List Cond := lw_tbl.filter goodWord
theorem mB_of {w : Cond} (h : w ∈ lw_tbl) (g : goodWord w = true) : w ∈ mB := List.mem_filter.mpr ⟨h, g⟩
theorem mB_good : ∀ w ∈ mB, goodWord w = true := fun _ h => (List.mem_filter.mp h).2
def mNest : Cond → Bool
  | .fieldLinkNest .. => true
  | .methodLinkNest .. => true
  | .castable .. => true
  | _ => false
def mNs : List Cond := lw_tbl.filter mNest
theorem mN_of {w : Cond} (h : w ∈ lw_tbl) (g : mNest w = true) : w ∈ mNs := List.mem_filter.mpr ⟨h, g⟩
/-- pairs of classes that aren't castable -/
def mNc : List (String × String) := [("CalledNumbers$Plain", "CalledNumbers$Whole"), ("CalledNumbers$Plain", "CalledNumbers$Deaf"), ("CalledNumbers$Plain", "CalledNumbers$Hasty"), ("CalledNumbers$Plain", "CalledNumbers$Late"), ("CalledNumbers$Plain", "CalledNumbers$Sly"), ("CalledNumbers$Whole", "CalledNumbers$Deaf"), ("CalledNumbers$Whole", "CalledNumbers$Hasty"), ("CalledNumbers$Whole", "CalledNumbers$Late"), ("CalledNumbers$Whole", "CalledNumbers$Sly"), ("CalledNumbers$Deaf", "CalledNumbers$Whole"), ("CalledNumbers$Deaf", "CalledNumbers$Hasty"), ("CalledNumbers$Deaf", "CalledNumbers$Late"), ("CalledNumbers$Deaf", "CalledNumbers$Sly"), ("CalledNumbers$Hasty", "CalledNumbers$Whole"), ("CalledNumbers$Hasty", "CalledNumbers$Deaf"), ("CalledNumbers$Hasty", "CalledNumbers$Late"), ("CalledNumbers$Hasty", "CalledNumbers$Sly"), ("CalledNumbers$Late", "CalledNumbers$Deaf"), ("CalledNumbers$Late", "CalledNumbers$Hasty"), ("CalledNumbers$Late", "CalledNumbers$Sly"), ("CalledNumbers$Sly", "CalledNumbers$Whole"), ("CalledNumbers$Sly", "CalledNumbers$Hasty"), ("CalledNumbers$Sly", "CalledNumbers$Late")]
/-- the letters' row -/
def mLet : Nat → Int32
  | 0 => 112
  | 1 => 119
  | 2 => 100
  | 3 => 104
  | 4 => 108
  | _ => 115
def mLt (A : Nat → Prop) (U : State) : Prop := ∃ t : Nat, va_Z "CalledNumbers" "LETTERS" "[I" (.ref t) A U U.heap ∧ va_T .int t 6 (fun j => .int (mLet j)) A U U.heap
/-- what is known of the tables beside the words -/
def mT (A : Nat → Prop) (U : State) : Prop := (∀ w ∈ mNs, va_Nw w U) ∧ (∀ q ∈ mNc, va_Nc q.1 q.2 U) ∧ mLt A U
theorem mNs_warm {s U : State} (hW : s.WarmedH U.vm) (h : ∀ w ∈ mNs, va_Nw w s) : ∀ w ∈ mNs, va_Nw w U := by
  intro w hw
  have h1 := h w hw
  have h2 := (List.mem_filter.mp hw).2
  cases w <;> first | exact va_Nw.warmF hW h1 | exact va_Nw.warmM hW h1 | exact va_Nw.warmC hW h1 | (simp [mNest] at h2; done)
theorem mNs_same {s U : State} (e : s.vm = U.vm) (h : ∀ w ∈ mNs, va_Nw w s) : ∀ w ∈ mNs, va_Nw w U := by
  intro w hw
  have h1 := h w hw
  have h2 := (List.mem_filter.mp hw).2
  cases w <;> first | exact va_Nw.same rfl e h1 | (simp [mNest] at h2; done)
theorem mT_warm {A : Nat → Prop} {s U : State} (hW : s.WarmedH U.vm) (hq : ∀ a : Nat, a < s.heap.size → ¬ A a → U.heap[a]? = s.heap[a]?) (h : mT A s) : mT A U := by
  obtain ⟨h1, h2, t, h3, h4⟩ := h
  exact ⟨mNs_warm hW h1, fun q hq => (h2 q hq).moved hW.alike, t, (h3.kept hq).moved hW.alike, (h4.kept hq).moved hW.alike⟩
theorem mT_same {A : Nat → Prop} {s U : State} (e : s.vm = U.vm) (eh : s.heap = U.heap) (h : mT A s) : mT A U := by
  obtain ⟨h1, h2, t, h3, h4⟩ := h
  have ha : s.vm.Alike U.vm := by rw [e]; exact Vm.Alike.refl U.vm
  refine ⟨mNs_same e h1, fun q hq => (h2 q hq).moved ha, t, ?_, ?_⟩
  · rw [eh] at h3; exact h3.moved ha
  · rw [eh] at h4; exact h4.moved ha
