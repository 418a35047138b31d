/-! a hall as a row of eight: marks 0 .. 3, who has won, the bag, the next call, the number called last -/
abbrev hT : Type := Nat → Int32
/-- players, kinds, cards (6 * i + p) -/
abbrev cT : Type := Nat × (Nat → Int32) × (Nat → Int32)
def bitP (hd c : Int32) (p : Nat) : Int32 := if X11_has hd c = 0 then 0 else (1 : Int32) <<< (nI p &&& 31)
def mbN (cd : Nat → Int32) (i : Nat) (hd : Int32) : Nat → Int32
  | 0 => 0
  | p + 1 => mbN cd i hd p ||| bitP hd (cd (6 * i + p)) p
def mbT (cd : Nat → Int32) (i : Nat) (hd : Int32) : Int32 := mbN cd i hd 6
theorem marksBy_eq (μ : mS) {a1 : Int32} {i : Nat} (h1 : a1.toInt = (i : Int)) (hi : i < 4) (hd : Int32) : X11_marksBy μ a1 hd = some (mbT (μ.1 7) i hd) := by
  unfold X11_marksBy
  have h := lp_zero (b := un2 (X11_marksBy_b5 μ a1 hd)) (n := 6) (res := mbT (μ.1 7) i hd) (fun j x => (mbN (μ.1 7) i hd j, x)) (by decide) (fun j x hj hx => by
    show X11_marksBy_b5 μ a1 hd (mbN (μ.1 7) i hd j) x = some (.inl (mbN (μ.1 7) i hd j ||| bitP hd (μ.1 7 (6 * i + j)) j, x + 1))
    unfold X11_marksBy_b5
    have hix := i_ix (c := 6) (cn := 6) (by decide) h1 hx (by omega)
    have hixn := i_ixn (c := 6) (cn := 6) (by decide) h1 hx (by omega)
    rw [if_neg (nle (by rw [hx]; show (j : Int) < 6; omega)), if_pos (vin_iff.mpr (by rw [hix]; omega)), hixn]
    unfold bitP
    rw [← i_nI hx]
    split <;> rfl) (fun x hx => by
    show X11_marksBy_b5 μ a1 hd (mbN (μ.1 7) i hd 6) x = _
    unfold X11_marksBy_b5
    rw [if_pos (ile (by rw [hx]; show (6 : Int) ≤ 6; omega))]
    rfl)
  have h2 : lp big (un2 (X11_marksBy_b5 μ a1 hd)) (0, 0) = some (mbT (μ.1 7) i hd) := h
  rw [h2]
  rfl
def nmk (c : cT) (h : hT) (num : Int32) (j : Nat) : Int32 := h j ||| mbT c.2.2 j (X11_heard (c.2.1 j) num (h 7) (h 6))
def wnb (c : cT) (h : hT) (num : Int32) (j : Nat) : Int32 := if ndT (c.2.1 j) (nmk c h num j) = 0 then (1 : Int32) <<< (nI j &&& 31) else 0
def wns (c : cT) (h : hT) (num : Int32) : Nat → Int32
  | 0 => 0
  | j + 1 => wns c h num j ||| wnb c h num j
def ringH (c : cT) (h : hT) (num : Int32) : hT := fun s => if s < c.1 then nmk c h num s else if s = 4 then h 4 ||| wns c h num c.1 else if s = 5 then h 5 &&& (((1 : Int32) <<< (num &&& 31)) ^^^ (-1)) else if s = 6 then h 6 + 1 else if s = 7 then num else h s
def getH (f : Nat → Int32) (b : Nat) : hT := fun s => if s < 8 then f (b + s) else 0
theorem getH_lt {f : Nat → Int32} {b s : Nat} (h : s < 8) : getH f b s = f (b + s) := if_pos h
def putH (f : Nat → Int32) (b : Nat) (h : hT) : Nat → Int32 := fun q => if b ≤ q ∧ q < b + 8 then h (q - b) else f q
def cfM (μ : mS) (P : Nat) : cT := (P, μ.1 6, μ.1 7)
/-- marks of the first j players set anew -/
def mkR (c : cT) (f : Nat → Int32) (b : Nat) (num : Int32) (j : Nat) : Nat → Int32 := fun q => if b ≤ q ∧ q < b + j then nmk c (getH f b) num (q - b) else f q
theorem mkR_zero {c : cT} {f : Nat → Int32} {b : Nat} {num : Int32} : mkR c f b num 0 = f := by
  funext q
  unfold mkR
  rw [if_neg (by omega)]
theorem mkR_succ {c : cT} {f : Nat → Int32} {b j : Nat} {num : Int32} : upd (mkR c f b num j) (b + j) (nmk c (getH f b) num j) = mkR c f b num (j + 1) := by
  funext q
  by_cases h : q = b + j
  · subst h
    rw [upd_at]
    unfold mkR
    rw [if_pos (by omega), Nat.add_sub_cancel_left]
  · rw [upd_ne h]
    unfold mkR
    by_cases h2 : b ≤ q ∧ q < b + j
    · rw [if_pos h2, if_pos (by omega)]
    · rw [if_neg h2, if_neg (by omega)]
theorem mkR_out {c : cT} {f : Nat → Int32} {b j q : Nat} {num : Int32} (h : ¬ (b ≤ q ∧ q < b + j)) : mkR c f b num j q = f q := if_neg h
theorem i_off {a x : Int32} {b n : Nat} (ha : a.toInt = (b : Int)) (hx : x.toInt = (n : Int)) (h : b + n < 2147483648) : (a + x).toInt = ((b + n : Nat) : Int) := i32_add ha hx h
theorem i_offn {a x : Int32} {b n : Nat} (ha : a.toInt = (b : Int)) (hx : x.toInt = (n : Int)) (h : b + n < 2147483648) : (a + x).toNatClampNeg = b + n := by rw [i_nat, i_off ha hx h]; rfl
theorem calls_eq (μ : mS) {a1 num : Int32} {b P : Nat} (hb : a1.toInt = (b : Int)) (hb2 : b + 8 ≤ 1360) (hP : (μ.1 0 5).toInt = (P : Int)) (hP4 : P ≤ 4) : X11_calls μ a1 num = some (wns (cfM μ P) (getH (μ.1 10) b) num P &&& ((μ.1 10 (b + 4)) ^^^ (-1)), mrow μ 10 (putH (μ.1 10) b (ringH (cfM μ P) (getH (μ.1 10) b) num))) := by
  unfold X11_calls
  generalize hc : cfM μ P = c
  have hc1 : c.1 = P := by rw [← hc]; rfl
  have hck : c.2.1 = μ.1 6 := by rw [← hc]; rfl
  have hcd : c.2.2 = μ.1 7 := by rw [← hc]; rfl
  generalize hf : μ.1 10 = f
  have o4 := i_offn (x := 4) (n := 4) hb (by decide) (by omega)
  have o5 := i_offn (x := 5) (n := 5) hb (by decide) (by omega)
  have o6 := i_offn (x := 6) (n := 6) hb (by decide) (by omega)
  have o7 := i_offn (x := 7) (n := 7) hb (by decide) (by omega)
  have v4 : vin (a1 + 4) 1360 = true := vin_iff.mpr (by rw [i_off (x := 4) (n := 4) hb (by decide) (by omega)]; omega)
  have v5 : vin (a1 + 5) 1360 = true := vin_iff.mpr (by rw [i_off (x := 5) (n := 5) hb (by decide) (by omega)]; omega)
  have v6 : vin (a1 + 6) 1360 = true := vin_iff.mpr (by rw [i_off (x := 6) (n := 6) hb (by decide) (by omega)]; omega)
  have v7 : vin (a1 + 7) 1360 = true := vin_iff.mpr (by rw [i_off (x := 7) (n := 7) hb (by decide) (by omega)]; omega)
  have h := lp_zero (b := un3 (X11_calls_b5 a1 num)) (n := P) (res := (mrow μ 10 (mkR c f b num P), wns c (getH f b) num P)) (fun j x => (mrow μ 10 (mkR c f b num j), wns c (getH f b) num j, x)) (by omega) (fun j x hj hx => by
    show X11_calls_b5 a1 num (mrow μ 10 (mkR c f b num j)) (wns c (getH f b) num j) x = some (.inl (mrow μ 10 (mkR c f b num (j + 1)), wns c (getH f b) num j ||| wnb c (getH f b) num j, x + 1))
    unfold X11_calls_b5
    have ox := i_offn hb hx (by omega)
    have vx : vin (a1 + x) 1360 = true := vin_iff.mpr (by rw [i_off hb hx (by omega)]; omega)
    have hxn : x.toNatClampNeg = j := by rw [i_nat, hx]; rfl
    rw [mrow_ne (by decide : (0 : Nat) ≠ 10), mrow_ne (by decide : (6 : Nat) ≠ 10), mrow_at, if_neg (nle (by rw [hP, hx]; omega)), if_pos (vin_iff.mpr (by omega)), if_pos v7, if_pos v6, if_pos vx, o7, o6, ox, hxn, marksBy_eq _ hx (by omega), mrow_ne (by decide : (7 : Nat) ≠ 10), mkR_out (by omega), mkR_out (by omega), mkR_out (by omega)]
    show (if vin (a1 + x) 1360 = true then if vin x 4 = true then if vin (a1 + x) 1360 = true then _ else none else none else none) = _
    rw [if_pos vx, if_pos (vin_iff.mpr (by omega)), if_pos vx, needs_eq, mwI_row, mrow_mrow, mrow_at, mrow_at, mrow_ne (by decide : (6 : Nat) ≠ 10)]
    have e1 : f (b + j) ||| mbT (μ.1 7) j (X11_heard (μ.1 6 j) num (f (b + 7)) (f (b + 6))) = nmk c (getH f b) num j := by
      unfold nmk
      rw [hck, hcd, getH_lt (show j < 8 by omega)]
      rfl
    rw [e1, upd_at, mkR_succ]
    show (if ndT (μ.1 6 j) (nmk c (getH f b) num j) = 0 then _ else _) = _
    unfold wnb
    rw [hck, i_nI hx]
    split <;> rfl) (fun x hx => by
    show X11_calls_b5 a1 num (mrow μ 10 (mkR c f b num P)) (wns c (getH f b) num P) x = _
    unfold X11_calls_b5
    rw [mrow_ne (by decide : (0 : Nat) ≠ 10), if_pos (ile (by rw [hP, hx]; omega))])
  have h2 : lp big (un3 (X11_calls_b5 a1 num)) (μ, 0, 0) = some (mrow μ 10 (mkR c f b num P), wns c (getH f b) num P) := by
    rw [← h]
    show _ = lp big _ (mrow μ 10 (mkR c f b num 0), (0 : Int32), (0 : Int32))
    rw [mkR_zero, ← hf, mrow_id]
  rw [h2]
  show (if vin (a1 + 4) 1360 = true then _ else none) = _
  rw [if_pos v4, if_pos v4, if_pos v4, if_pos v5, if_pos v5, if_pos v6, if_pos v6, if_pos v7, o4, o5, o6, o7]
  simp only [mwI_row, mrow_mrow, mrow_at]
  rw [mkR_out (by omega)]
  congr 2
  congr 1
  funext q
  unfold putH ringH
  by_cases q7 : q = b + 7
  · subst q7
    rw [upd_at, if_pos (by omega), if_neg (by omega), if_neg (by omega), if_neg (by omega), if_neg (by omega), if_pos (by omega)]
  rw [upd_ne q7]
  by_cases q6 : q = b + 6
  · subst q6
    rw [upd_at, upd_ne (by omega), upd_ne (by omega), mkR_out (by omega), if_pos (by omega), if_neg (by omega), if_neg (by omega), if_neg (by omega), if_pos (by omega)]
    rfl
  rw [upd_ne q6]
  by_cases q5 : q = b + 5
  · subst q5
    rw [upd_at, upd_ne (by omega), mkR_out (by omega), if_pos (by omega), if_neg (by omega), if_neg (by omega), if_pos (by omega)]
    rfl
  rw [upd_ne q5]
  by_cases q4 : q = b + 4
  · subst q4
    rw [upd_at, if_pos (by omega), if_neg (by omega), if_pos (by omega), hc1]
    rfl
  rw [upd_ne q4]
  unfold mkR
  by_cases hq : b ≤ q ∧ q < b + P
  · rw [if_pos hq, if_pos (by omega), if_pos (by omega)]
  · rw [if_neg hq]
    by_cases hq8 : b ≤ q ∧ q < b + 8
    · rw [if_pos hq8, if_neg (by omega), if_neg (by omega), if_neg (by omega), if_neg (by omega), if_neg (by omega)]
      rw [getH_lt (by omega), show b + (q - b) = q by omega]
    · rw [if_neg hq8]
/-! the class's marks -/
theorem zero_shl (p : Nat) (hp : p < 32) : (0 : Int32) <<< (nI p &&& 31) = 0 := b_ext (fun i hi => by rw [b_shl p hp 0 hi, b_0, b_0, Bool.and_false])
theorem shl_has (hd : Int32) {n p : Nat} (hn : n < 32) (hp : p < 32) : (((hd >>> (nI n &&& 31)) &&& 1) <<< (nI p &&& 31)) = bitP hd (nI n) p := by
  unfold bitP
  rw [has_eq hd hn, bit_eq hd hn]
  cases bt hd n
  · rw [if_neg (by decide), if_pos rfl, zero_shl p hp]
  · rw [if_pos rfl, if_neg (by decide)]
def cbN (cd : Nat → Int32) (i : Nat) : Nat → Int32
  | 0 => 0
  | p + 1 => cbN cd i p ||| ((1 : Int32) <<< ((cd (6 * i + p)) &&& 31))
/-- the class's players: kinds, cards, a card's bits -/
def CF (σ : mS) (c : cT) : Prop := (σ.1 88 4).toInt = (c.1 : Int) ∧ c.1 ≤ 4 ∧ ∀ i, i < c.1 → (∃ r, r < 6 ∧ σ.1 112 i = nI r ∧ c.2.1 i = nI r) ∧ σ.1 136 i = cbN c.2.2 i 6 ∧ ∀ p, p < 6 → σ.1 (128 + i) p = c.2.2 (6 * i + p) ∧ ∃ n, 1 ≤ n ∧ n ≤ 12 ∧ c.2.2 (6 * i + p) = nI n
theorem CF.of {σ τ : mS} {c : cT} (h : CF σ c) (h1 : τ.1 88 = σ.1 88) (h2 : τ.1 112 = σ.1 112) (h3 : τ.1 136 = σ.1 136) (h4 : ∀ i, i < 4 → τ.1 (128 + i) = σ.1 (128 + i)) : CF τ c := by
  obtain ⟨g1, g2, g3⟩ := h
  refine ⟨by rw [h1]; exact g1, g2, fun i hi => ?_⟩
  obtain ⟨a, b, d⟩ := g3 i hi
  exact ⟨by rw [h2]; exact a, by rw [h3]; exact b, fun p hp => by rw [h4 i (by omega)]; exact d p hp⟩
theorem cb_in {cd : Nat → Int32} {i n : Nat} (hn : n < 32) : ∀ {q p : Nat}, p < q → cd (6 * i + p) = nI n → bt (cbN cd i q) n = true
  | 0, p, h, _ => absurd h (Nat.not_lt_zero _)
  | q + 1, p, h, e => by
    show bt (cbN cd i q ||| ((1 : Int32) <<< ((cd (6 * i + q)) &&& 31))) n = true
    rw [b_or]
    by_cases hp : p = q
    · subst hp
      rw [e, shl_bt hn hn, decide_eq_true rfl, Bool.or_true]
    · rw [cb_in hn (show p < q by omega) e, Bool.true_or]
theorem mb_none {cd : Nat → Int32} {i : Nat} {hd : Int32} (hc : ∀ p, p < 6 → ∃ n, 1 ≤ n ∧ n ≤ 12 ∧ cd (6 * i + p) = nI n) (h : hd &&& cbN cd i 6 = 0) : ∀ q, q ≤ 6 → mbN cd i hd q = 0
  | 0, _ => rfl
  | q + 1, hq => by
    show mbN cd i hd q ||| bitP hd (cd (6 * i + q)) q = 0
    obtain ⟨n, n1, n2, e⟩ := hc q (by omega)
    have h1 : bt hd n = false := by
      have h2 : bt (hd &&& cbN cd i 6) n = false := by rw [h]; exact b_0 n
      rw [b_and, cb_in (by omega) (show q < 6 by omega) e, Bool.and_true] at h2
      exact h2
    unfold bitP
    rw [mb_none hc h q (by omega), e, if_pos ((has_zero hd (by omega)).mpr h1), or_zero]
theorem marked_eq (σ : mS) {c : cT} {a1 : Int32} {i : Nat} (hC : CF σ c) (h1 : a1.toInt = (i : Int)) (hi : i < c.1) (m hd : Int32) : X7_marked σ a1 m hd = some (m ||| mbT c.2.2 i hd) := by
  obtain ⟨-, h4, hC⟩ := hC
  obtain ⟨-, hb, hcd⟩ := hC i hi
  have hin : a1.toNatClampNeg = i := by rw [i_nat, h1]; rfl
  unfold X7_marked
  rw [if_pos (vin_iff.mpr (by omega)), hin, hb]
  by_cases h0 : (hd &&& cbN c.2.2 i 6) = 0
  · rw [if_pos h0]
    unfold mbT
    rw [mb_none (fun p hp => (hcd p hp).2) h0 6 (by decide), or_zero]
  · rw [if_neg h0]
    have h := lp_zero (b := un2 (X7_marked_b17 σ a1 hd)) (n := 6) (res := m ||| mbT c.2.2 i hd) (fun j x => (m ||| mbN c.2.2 i hd j, x)) (by decide) (fun j x hj hx => by
      show X7_marked_b17 σ a1 hd (m ||| mbN c.2.2 i hd j) x = some (.inl (m ||| (mbN c.2.2 i hd j ||| bitP hd (c.2.2 (6 * i + j)) j), x + 1))
      unfold X7_marked_b17
      have hxn : x.toNatClampNeg = j := by rw [i_nat, hx]; rfl
      obtain ⟨e1, n, n1, n2, e2⟩ := hcd j hj
      rw [if_neg (nle (by rw [hx]; show (j : Int) < 6; omega)), if_pos (vin_iff.mpr (by omega)), if_pos (vin_iff.mpr (by omega)), hxn, hin, e1, e2, i_nI hx, shl_has hd (by omega) (by omega), or_assoc]) (fun x hx => by
      show X7_marked_b17 σ a1 hd (m ||| mbN c.2.2 i hd 6) x = _
      unfold X7_marked_b17
      rw [if_pos (ile (by rw [hx]; show (6 : Int) ≤ 6; omega))]
      rfl)
    have h2 : lp big (un2 (X7_marked_b17 σ a1 hd)) (m, 0) = some (m ||| mbT c.2.2 i hd) := by
      rw [← h]
      show _ = lp big _ (m ||| 0, (0 : Int32))
      rw [or_zero]
    rw [h2]
    rfl
