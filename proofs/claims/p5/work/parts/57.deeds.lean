/-! copies, starts, turns, deeds -/
theorem bd_some {α β γ : Type} {a : α} {b : β} {f : α → β → Option γ} : bd (some (a, b)) f = f a b := rfl
def cpF (f : Nat → Int32) (s t n : Nat) : Nat → Int32 := fun q => if t ≤ q ∧ q < t + n then f (s + (q - t)) else f q
theorem copies_eq (μ : mS) {a1 a2 a3 : Int32} {s t n : Nat} (h1 : a1.toInt = (s : Int)) (h2 : a2.toInt = (t : Int)) (h3 : a3.toInt = (n : Int)) (hs : s + n ≤ 1360) (ht : t + n ≤ 1360) (hd : s + n ≤ t ∨ t + n ≤ s) : X11_copies μ a1 a2 a3 = some ((), mrow μ 10 (cpF (μ.1 10) s t n)) := by
  unfold X11_copies
  have c0 : cpF (μ.1 10) s t 0 = μ.1 10 := by
    funext q
    unfold cpF
    rw [if_neg (by omega)]
  have H := lp_zero (b := un2 (X11_copies_b3 a1 a2 a3)) (n := n) (res := mrow μ 10 (cpF (μ.1 10) s t n)) (fun j x => (mrow μ 10 (cpF (μ.1 10) s t j), x)) (by omega) (fun j x hj hx => by
    show X11_copies_b3 a1 a2 a3 (mrow μ 10 (cpF (μ.1 10) s t j)) x = some (.inl (mrow μ 10 (cpF (μ.1 10) s t (j + 1)), x + 1))
    unfold X11_copies_b3
    rw [if_neg (nle (by rw [h3, hx]; omega)), if_pos (vin_iff.mpr (by rw [i_off h1 hx (by omega)]; omega)), if_pos (vin_iff.mpr (by rw [i_off h2 hx (by omega)]; omega)), i_offn h1 hx (by omega), i_offn h2 hx (by omega), mwI_row, mrow_mrow, mrow_at]
    have e : upd (cpF (μ.1 10) s t j) (t + j) (cpF (μ.1 10) s t j (s + j)) = cpF (μ.1 10) s t (j + 1) := by
      funext q
      by_cases hq : q = t + j
      · subst hq
        rw [upd_at]
        unfold cpF
        rw [if_neg (by omega), if_pos (by omega), Nat.add_sub_cancel_left]
      · rw [upd_ne hq]
        unfold cpF
        by_cases hq2 : t ≤ q ∧ q < t + j
        · rw [if_pos hq2, if_pos (by omega)]
        · rw [if_neg hq2, if_neg (by omega)]
    rw [e]) (fun x hx => by
    show X11_copies_b3 a1 a2 a3 _ x = _
    unfold X11_copies_b3
    rw [if_pos (ile (by rw [h3, hx]; omega))])
  have H2 : lp big (un2 (X11_copies_b3 a1 a2 a3)) (mrow μ 10 (cpF (μ.1 10) s t 0), 0) = _ := H
  rw [c0, mrow_id] at H2
  rw [H2]
  rfl
theorem getH_cp_out {f : Nat → Int32} {s t n b : Nat} (h : b + 8 ≤ t ∨ t + n ≤ b) : getH (cpF f s t n) b = getH f b := by
  funext q
  unfold getH
  by_cases hq : q < 8
  · rw [if_pos hq, if_pos hq]
    unfold cpF
    rw [if_neg (by omega)]
  · rw [if_neg hq, if_neg hq]
theorem getH_cp_in {f : Nat → Int32} {s t n b : Nat} (h : t ≤ b ∧ b + 8 ≤ t + n) : getH (cpF f s t n) b = getH f (s + (b - t)) := by
  funext q
  unfold getH
  by_cases hq : q < 8
  · rw [if_pos hq, if_pos hq]
    unfold cpF
    rw [if_pos (by omega), show s + (b + q - t) = s + (b - t) + q by omega]
  · rw [if_neg hq, if_neg hq]
theorem getH_put {f : Nat → Int32} {b : Nat} {h : hT} (hh : ∀ q, 8 ≤ q → h q = 0) : getH (putH f b h) b = h := by
  funext q
  unfold getH
  by_cases hq : q < 8
  · rw [if_pos hq]
    unfold putH
    rw [if_pos (by omega), Nat.add_sub_cancel_left]
  · rw [if_neg hq, hh q (by omega)]
theorem getH_put_out {f : Nat → Int32} {b b' : Nat} {h : hT} (hd : b' + 8 ≤ b ∨ b + 8 ≤ b') : getH (putH f b h) b' = getH f b' := by
  funext q
  unfold getH
  by_cases hq : q < 8
  · rw [if_pos hq, if_pos hq]
    unfold putH
    rw [if_neg (by omega)]
  · rw [if_neg hq, if_neg hq]
theorem ringH_8 {c : cT} {h : hT} {num : Int32} (hP : c.1 ≤ 4) (hh : ∀ q, 8 ≤ q → h q = 0) : ∀ q, 8 ≤ q → ringH c h num q = 0 := fun q hq => by
  unfold ringH
  rw [if_neg (by omega), if_neg (by omega), if_neg (by omega), if_neg (by omega), if_neg (by omega), hh q hq]
theorem getH_8 {f : Nat → Int32} {b : Nat} : ∀ q, 8 ≤ q → getH f b q = 0 := fun q hq => by
  unfold getH
  rw [if_neg (by omega)]
/-- a hall of the class written anew: its marks, its fields -/
def hlX (σ : mS) (i : Nat) (m : Nat → Int32) (w b l n : Int32) : mS := mrow (mrow σ (152 + i) m) (144 + i) (fdX (σ.1 (144 + i)) w b l n)
theorem hlX_row {σ : mS} {i k : Nat} {m : Nat → Int32} {w b l n : Int32} (h1 : k ≠ 152 + i) (h2 : k ≠ 144 + i) : (hlX σ i m w b l n).1 k = σ.1 k := by
  unfold hlX
  rw [mrow_ne h2, mrow_ne h1]
theorem hlX_HX {σ : mS} {i : Nat} {m : Nat → Int32} {w b l n : Int32} : HX (hlX σ i m w b l n) i = fun s => if s < 4 then m s else if s = 4 then w else if s = 5 then b else if s = 6 then n else if s = 7 then l else 0 := by
  funext s
  unfold HX hlX
  rw [mrow_at, mrow_ne (by omega), mrow_at]
  rfl
theorem begin_eq (σ : mS) {i : Nat} (hi : i < 6) : X2_begin σ i = some ((), hlX σ i (seg 0 4 0 (σ.1 (152 + i))) 0 (if (σ.1 88 4) = 0 then 0 else 8190) 0 0) := by
  unfold X2_begin
  rw [fillI_eq _ _ _ _ (by decide), bd_some]
  have e88 : (mwI (mrow σ (152 + i) (seg 0 4 0 (σ.1 (152 + i)))) (144 + i) 2 0).1 88 4 = σ.1 88 4 := by rw [mwI_rk (by omega), mrow_ne (by omega)]
  rw [e88]
  show some _ = some _
  simp only [mwI_row, mrow_mrow, mrow_at]
  unfold hlX
  congr 2
  rw [mrow_ne (by omega : 144 + i ≠ 152 + i)]
  congr 1
  funext q
  unfold fdX
  by_cases q5 : q = 5
  · subst q5; rw [upd_at]; rfl
  rw [upd_ne q5]
  by_cases q4 : q = 4
  · subst q4; rw [upd_at]; rfl
  rw [upd_ne q4]
  by_cases q3 : q = 3
  · subst q3; rw [upd_at]; rfl
  rw [upd_ne q3]
  by_cases q2 : q = 2
  · subst q2; rw [upd_at]; rfl
  rw [upd_ne q2, if_neg q2, if_neg q3, if_neg q4, if_neg q5]
theorem begin_HX {σ : mS} {i P : Nat} (hP : (σ.1 88 4).toInt = (P : Int)) : HX (hlX σ i (seg 0 4 0 (σ.1 (152 + i))) 0 (if (σ.1 88 4) = 0 then 0 else 8190) 0 0) i = frH P := by
  rw [hlX_HX]
  funext s
  unfold frH
  by_cases h4 : s < 4
  · rw [if_pos h4, if_neg (by omega), seg_in (by omega)]
  · rw [if_neg h4]
    by_cases e4 : s = 4
    · rw [if_pos e4, if_neg (by omega)]
    · rw [if_neg e4]
      by_cases e5 : s = 5
      · rw [if_pos e5, if_pos e5]
        by_cases hz : P = 0
        · rw [if_pos hz, if_pos (i_eq.mpr (by rw [hP, hz]; rfl))]
        · rw [if_neg hz, if_neg (fun q => hz (by have := i_eq.mp q; rw [hP, i_zero] at this; omega))]
      · rw [if_neg e5, if_neg e5]
        by_cases e6 : s = 6
        · rw [if_pos e6]
        · rw [if_neg e6]
          split <;> rfl
theorem take_eq (σ : mS) {i i1 : Nat} (hi : i < 6) (hi1 : i1 < 6) (hne : i ≠ i1) : X2_take σ i i1 = some ((), hlX σ i (fun q => if q < 4 then σ.1 (152 + i1) q else σ.1 (152 + i) q) (σ.1 (144 + i1) 2) (σ.1 (144 + i1) 3) (σ.1 (144 + i1) 4) (σ.1 (144 + i1) 5)) := by
  unfold X2_take
  have H := lp_zero (b := un2 (X2_take_b2 i i1)) (n := 4) (res := mrow σ (152 + i) (fun q => if q < 4 then σ.1 (152 + i1) q else σ.1 (152 + i) q)) (fun j x => (mrow σ (152 + i) (fun q => if q < j then σ.1 (152 + i1) q else σ.1 (152 + i) q), x)) (by omega) (fun j x hj hx => by
    show X2_take_b2 i i1 (mrow σ (152 + i) (fun q => if q < j then σ.1 (152 + i1) q else σ.1 (152 + i) q)) x = some (.inl (mrow σ (152 + i) (fun q => if q < j + 1 then σ.1 (152 + i1) q else σ.1 (152 + i) q), x + 1))
    unfold X2_take_b2
    have hxn : x.toNatClampNeg = j := by rw [i_nat, hx]; rfl
    have vx : vin x 4 = true := vin_iff.mpr (by omega)
    rw [if_neg (nle (by rw [hx]; show (j : Int) < 4; omega)), if_pos vx, if_pos vx, hxn, mwI_row, mrow_mrow, mrow_at, mrow_ne (by omega)]
    have e : upd (fun q => if q < j then σ.1 (152 + i1) q else σ.1 (152 + i) q) j (σ.1 (152 + i1) j) = fun q => if q < j + 1 then σ.1 (152 + i1) q else σ.1 (152 + i) q := by
      funext q
      by_cases hq : q = j
      · subst hq
        rw [upd_at, if_pos (by omega)]
      · rw [upd_ne hq]
        by_cases hq2 : q < j
        · rw [if_pos hq2, if_pos (by omega)]
        · rw [if_neg hq2, if_neg (by omega)]
    rw [e]) (fun x hx => by
    show X2_take_b2 i i1 _ x = _
    unfold X2_take_b2
    rw [if_pos (ile (by rw [hx]; show (4 : Int) ≤ 4; omega))])
  have c0 : (fun q => if q < 0 then σ.1 (152 + i1) q else σ.1 (152 + i) q) = σ.1 (152 + i) := by
    funext q
    rw [if_neg (Nat.not_lt_zero q)]
  have H2 : lp big (un2 (X2_take_b2 i i1)) (mrow σ (152 + i) (fun q => if q < 0 then σ.1 (152 + i1) q else σ.1 (152 + i) q), 0) = _ := H
  rw [c0, mrow_id] at H2
  rw [H2]
  show some _ = some _
  have n1 : 144 + i1 ≠ 144 + i := by omega
  have n2 : 144 + i1 ≠ 152 + i := by omega
  simp only [mwI_row, mrow_mrow, mrow_at, mrow_ne n1, mrow_ne n2]
  unfold hlX
  congr 2
  rw [mrow_ne (by omega : 144 + i ≠ 152 + i)]
  congr 1
  funext q
  unfold fdX
  by_cases q5 : q = 5
  · subst q5; rw [upd_at]; rfl
  rw [upd_ne q5]
  by_cases q4 : q = 4
  · subst q4; rw [upd_at]; rfl
  rw [upd_ne q4]
  by_cases q3 : q = 3
  · subst q3; rw [upd_at]; rfl
  rw [upd_ne q3]
  by_cases q2 : q = 2
  · subst q2; rw [upd_at]; rfl
  rw [upd_ne q2, if_neg q2, if_neg q3, if_neg q4, if_neg q5]
theorem take_HX {σ : mS} {i i1 : Nat} : HX (hlX σ i (fun q => if q < 4 then σ.1 (152 + i1) q else σ.1 (152 + i) q) (σ.1 (144 + i1) 2) (σ.1 (144 + i1) 3) (σ.1 (144 + i1) 4) (σ.1 (144 + i1) 5)) i = HX σ i1 := by
  rw [hlX_HX]
  funext s
  unfold HX
  by_cases h4 : s < 4
  · rw [if_pos h4, if_pos h4, if_pos h4]
  · rw [if_neg h4, if_neg h4]
theorem turn_eq (σ : mS) {i p a : Nat} (ha : a < 4) : X2_turn σ i (nI a) (nI p) = some ((), mrow σ (152 + i) (upd (σ.1 (152 + i)) a (σ.1 (152 + i) a ^^^ ((1 : Int32) <<< (nI p &&& 31))))) := by
  unfold X2_turn
  have vx : vin (nI a) 4 = true := vin_iff.mpr (by rw [nI_ti (by omega)]; omega)
  rw [if_pos vx, if_pos vx, nI_nat (by omega)]
  rfl
theorem turn_HX {σ : mS} {i p a : Nat} (ha : a < 4) : HX (mrow σ (152 + i) (upd (σ.1 (152 + i)) a (σ.1 (152 + i) a ^^^ ((1 : Int32) <<< (nI p &&& 31))))) i = turnH (HX σ i) a p := by
  have e0 : HX σ i a = σ.1 (152 + i) a := by unfold HX; rw [if_pos ha]
  unfold turnH
  rw [e0]
  funext s
  show (if s < 4 then (mrow σ (152 + i) _).1 (152 + i) s else if s = 4 then (mrow σ (152 + i) _).1 (144 + i) 2 else if s = 5 then (mrow σ (152 + i) _).1 (144 + i) 3 else if s = 6 then (mrow σ (152 + i) _).1 (144 + i) 5 else if s = 7 then (mrow σ (152 + i) _).1 (144 + i) 4 else 0) = _
  rw [mrow_at, mrow_ne (by omega)]
  by_cases hs : s = a
  · subst hs
    rw [if_pos ha, upd_at, upd_at]
  · rw [upd_ne hs, upd_ne hs]
    rfl
theorem rub_code : ∀ m, m < 40 → 16 ≤ m → (nI m - 16) / 6 = nI ((m - 16) / 6) ∧ (nI m - 16) - (nI m - 16) / 6 * 6 = nI ((m - 16) % 6) := by decide +kernel
/-- the class's memory behind the first k deeds done again -/
def agX (σ : mS) (c : cT) (dn : Nat → Nat) : Nat → mS
  | 0 => σ
  | k + 1 => if dn k < 16 then rgX (agX σ c dn k) c 5 15 (nI (dn k)) else mrow (agX σ c dn k) (152 + 5) (upd ((agX σ c dn k).1 (152 + 5)) ((dn k - 16) / 6) ((agX σ c dn k).1 (152 + 5) ((dn k - 16) / 6) ^^^ ((1 : Int32) <<< (nI ((dn k - 16) % 6) &&& 31))))
theorem agX_succ {σ : mS} {c : cT} {dn : Nat → Nat} {k : Nat} : agX σ c dn (k + 1) = if dn k < 16 then rgX (agX σ c dn k) c 5 15 (nI (dn k)) else mrow (agX σ c dn k) (152 + 5) (upd ((agX σ c dn k).1 (152 + 5)) ((dn k - 16) / 6) ((agX σ c dn k).1 (152 + 5) ((dn k - 16) / 6) ^^^ ((1 : Int32) <<< (nI ((dn k - 16) % 6) &&& 31)))) := rfl
theorem agX_row {σ : mS} {c : cT} {dn : Nat → Nat} {q : Nat} (h1 : q ≠ 152 + 5) (h2 : q ≠ 144 + 5) : ∀ k, (agX σ c dn k).1 q = σ.1 q
  | 0 => rfl
  | k + 1 => by
    unfold agX
    split
    · rw [rgX_row h1 h2, agX_row h1 h2 k]
    · rw [mrow_ne h1, agX_row h1 h2 k]
theorem agX_2 {σ : mS} {c : cT} {dn : Nat → Nat} : ∀ k, (agX σ c dn k).2 = σ.2
  | 0 => rfl
  | k + 1 => by
    unfold agX
    split
    · rw [rgX_2, agX_2 k]
    · rw [mrow_2, agX_2 k]
theorem CF.ag {σ : mS} {c : cT} {dn : Nat → Nat} (hC : CF σ c) (k : Nat) : CF (agX σ c dn k) c := hC.of (agX_row (by decide) (by decide) k) (agX_row (by decide) (by decide) k) (agX_row (by decide) (by decide) k) (fun i hi => agX_row (by omega) (by omega) k)
theorem agX_HX {σ : mS} {c : cT} {dn : Nat → Nat} (hP : c.1 ≤ 4) (h0 : HX σ 5 = frH c.1) : ∀ k, (∀ q, q < k → dOK c.1 (dn q)) → HX (agX σ c dn k) 5 = rpl c dn k
  | 0, _ => h0
  | k + 1, h => by
    have ih := agX_HX hP h0 k (fun q hq => h q (by omega))
    unfold agX
    show _ = dStep c (rpl c dn k) (dn k)
    unfold dStep
    by_cases hm : dn k < 16
    · rw [if_pos hm, if_pos hm, rgX_HX hP, ih]
    · have hd := h k (by omega)
      unfold dOK at hd
      rw [if_neg hm, if_neg hm, turn_HX (by omega), ih]
theorem again_eq (σ : mS) {c : cT} {d : Nat} {dn : Nat → Nat} (hC : CF σ c) (hsz : σ.1 (160 + 3) 1 = nI d) (hd : d ≤ 40) (hdn : ∀ k, k < d → σ.1 (168 + 3) k = nI (dn k) ∧ dOK c.1 (dn k)) : ∃ τ, X10_doAgain σ = some ((), τ) ∧ HX τ 5 = rpl c dn d ∧ (∀ k, k ≠ 152 + 5 → k ≠ 144 + 5 → τ.1 k = σ.1 k) ∧ τ.2 = σ.2 := by
  have hP := hC.1
  have hP4 := hC.2.1
  unfold X10_doAgain
  rw [begin_eq σ (by decide)]
  generalize hs0 : hlX σ 5 (seg 0 4 0 (σ.1 (152 + 5))) 0 (if (σ.1 88 4) = 0 then 0 else 8190) 0 0 = s0
  have hrow : ∀ k, k ≠ 152 + 5 → k ≠ 144 + 5 → s0.1 k = σ.1 k := fun k k1 k2 => by rw [← hs0, hlX_row k1 k2]
  have hC0 : CF s0 c := hC.of (hrow _ (by decide) (by decide)) (hrow _ (by decide) (by decide)) (hrow _ (by decide) (by decide)) (fun i hi => hrow _ (by omega) (by omega))
  have h0 : HX s0 5 = frH c.1 := by rw [← hs0, begin_HX hP]
  have H := lp_zero (b := un2 X10_doAgain_b9) (n := d) (res := agX s0 c dn d) (fun j x => (agX s0 c dn j, x)) (by omega) (fun j x hj hx => by
    show X10_doAgain_b9 (agX s0 c dn j) x = some (.inl (agX s0 c dn (j + 1), x + 1))
    have hxn : x.toNatClampNeg = j := by rw [i_nat, hx]; rfl
    obtain ⟨e1, e2⟩ := hdn j hj
    have rsz : (agX s0 c dn j).1 (160 + 3) 1 = nI d := by rw [agX_row (by decide) (by decide), hrow _ (by decide) (by decide), hsz]
    have rdn : (agX s0 c dn j).1 (168 + 3) j = nI (dn j) := by rw [agX_row (by decide) (by decide), hrow _ (by decide) (by decide), e1]
    have hCj : CF (agX s0 c dn j) c := hC0.ag j
    have hHj := agX_HX (σ := s0) (dn := dn) hP4 h0 j (fun q hq => (hdn q (by omega)).2)
    have hV : HV (HX (agX s0 c dn j) 5) := by rw [hHj]; exact HV_rpl hP4 (fun q hq => (hdn q (by omega)).2)
    unfold X10_doAgain_b9
    rw [rsz, if_neg (nle (by rw [nI_ti (by omega), hx]; omega)), if_pos (vin_iff.mpr (by omega)), hxn, rdn]
    unfold dOK at e2
    rw [agX_succ]
    by_cases hm : dn j < 16
    · rw [if_neg (nle (by rw [nI_ti (by omega)]; show (dn j : Int) < 16; omega)), if_pos hm, ring15 _ (by decide) hCj (hV.m hP4) (by omega)]
      rfl
    · rw [if_pos (ile (by rw [nI_ti (by omega)]; show (16 : Int) ≤ dn j; omega)), if_neg hm, (rub_code (dn j) (by omega) (by omega)).2, (rub_code (dn j) (by omega) (by omega)).1, turn_eq _ (by omega)]
      rfl) (fun x hx => by
    show X10_doAgain_b9 (agX s0 c dn d) x = _
    unfold X10_doAgain_b9
    have rsz : (agX s0 c dn d).1 (160 + 3) 1 = nI d := by rw [agX_row (by decide) (by decide), hrow _ (by decide) (by decide), hsz]
    rw [rsz, if_pos (ile (by rw [nI_ti (by omega), hx]; omega))])
  refine ⟨agX s0 c dn d, ?_, agX_HX hP4 h0 d (fun q hq => (hdn q hq).2), fun k k1 k2 => by rw [agX_row k1 k2, hrow k k1 k2], by rw [agX_2, ← hs0]; rfl⟩
  show Option.bind (lp big (un2 X10_doAgain_b9) (s0, 0)) _ = _
  have H2 : lp big (un2 X10_doAgain_b9) (s0, 0) = some (agX s0 c dn d) := H
  rw [H2]
  rfl
