theorem nf_len (b : Int32) : ∀ d x, (nf b d x).length ≤ d
  | 0, _ => Nat.le_refl _
  | d + 1, x => by
    unfold nf
    have := nf_len b d (x + 1)
    split
    · show (nf b d (x + 1)).length + 1 ≤ d + 1
      omega
    · omega
theorem fm_len {α β : Type} (g : α → List β) {K : Nat} : ∀ l : List α, (∀ a, (g a).length ≤ K) → (l.flatMap g).length ≤ l.length * K
  | [], _ => Nat.zero_le _
  | a :: l, h => by
    rw [List.flatMap_cons, List.length_append, List.length_cons, Nat.add_mul, Nat.one_mul]
    have := h a
    have := fm_len g l h
    omega
theorem lv_len (c : cT) : ∀ r h, (lv c r h).length ≤ 12 ^ r
  | 0, _ => Nat.le_refl _
  | r + 1, h => by
    unfold lv
    have h1 := fm_len (fun n => (lv c r (ringH c h (nI n))).map (fun l => (n :: l.1, l.2))) (K := 12 ^ r) (nf (h 5) 12 1) (fun n => by rw [List.length_map]; exact lv_len c r _)
    have h2 := nf_len (h 5) 12 1
    have h3 : (nf (h 5) 12 1).length * 12 ^ r ≤ 12 * 12 ^ r := Nat.mul_le_mul_right _ h2
    rw [Nat.pow_succ, Nat.mul_comm (12 ^ r) 12]
    omega
theorem lv_len4 (c : cT) {N : Nat} (hN : N ≤ 4) (h : hT) : (lv c N h).length ≤ 20736 := Nat.le_trans (lv_len c N h) (Nat.pow_le_pow_right (by omega) hN : 12 ^ N ≤ 12 ^ 4)
/-- where the reference stands: no leaf more, or at the first of those left -/
def Now (μ : mS) (c : cT) (N : Nat) (H0 : hT) (m : mS) (x : Int32) (L : List (List Nat × hT)) : Prop := (L = [] ∧ x = 0 ∧ FrM μ m) ∨ (∃ p h rest, L = (p, h) :: rest ∧ x = 1 ∧ AtL μ c N H0 m p h rest)
theorem Now.fr {μ m : mS} {c : cT} {N : Nat} {H0 : hT} {x : Int32} {L : List (List Nat × hT)} (h : Now μ c N H0 m x L) : FrM μ m := by
  rcases h with ⟨-, -, h⟩ | ⟨p, h, rest, -, -, pn, hT, -⟩
  · exact h
  · exact hT.1
theorem mone_ne {N : Nat} (hN : N ≤ 4) : ¬ (-1 : Int32) = nI N := fun q => by
  have := i_eq.mp q
  rw [nI_ti (by omega)] at this
  have : (-1 : Int) = N := this
  omega
theorem fol_first {σ μ m : mS} {c : cT} (hG : RG σ μ c) (hF : FrM μ m) {N : Nat} (h1 : 1 ≤ N) (hN : N ≤ 4) : ∃ x m', X11_follows m (nI N) 1 = some (x, m') ∧ Now μ c N (HX σ 5) m' x (lv c N (HX σ 5)) ∧ (∀ q, q ≠ 10 → q ≠ 13 → m'.1 q = m.1 q) := by
  unfold X11_follows
  obtain ⟨m1, e1, g1, g2, F1, g3⟩ := tcopy hF (s := 0) (t := 1312) (by omega) (by omega) (by omega) (by omega)
  have e1' : X11_copies m 0 1312 8 = some ((), m1) := e1
  rw [un1_app, if_neg (by decide), if_neg (by decide), e1', bd_some, if_pos (by decide), Option.bind_some, un1_app]
  have F2 : FrM μ (mwI m1 13 0 0) := ⟨fun q a1 a2 a3 a4 => by rw [mwI_rk a2]; exact F1.1 q a1 a2 a3 a4, fun q hq => by rw [mwI_rk (by decide)]; exact F1.2.1 q hq, F1.2.2⟩
  have h0 : hS (mwI m1 13 0 0) 0 = HX σ 5 := by
    unfold hS
    rw [mwI_rk (by decide), show 1312 + 8 * 0 = 1312 by omega, g1, hG.2.2.2.2.2.1]
    funext q
    unfold getH
    by_cases hq : q < 8
    · rw [if_pos hq, if_pos hq]
      exact hF.2.1 _ (by omega)
    · rw [if_neg hq, if_neg hq]
  have ms : msr N (fun _ => 0) 1 < 100000 := by
    rcases (show N = 1 ∨ N = 2 ∨ N = 3 ∨ N = 4 by omega) with rfl | rfl | rfl | rfl <;> decide
  obtain ⟨m', y, w1, w0, w2⟩ := walk hG hN (H0 := HX σ 5) big (mwI m1 13 0 0) 1 (fun _ => 0) h1 h1 (Or.inr h0) ⟨F2, fun j hj => ⟨by rw [show j = 0 by omega, mwI_rd]; rfl, Nat.zero_le _⟩⟩ (Nat.lt_trans ms (by decide)) ms
  have w1' : lp big (un2 (X11_follows_b33 (nI N))) (mwI m1 13 (0 : Int32).toNatClampNeg 0, 0) = some (m', y) := w1
  have er : remS c N (hS (mwI m1 13 0 0)) (fun _ => 0) 1 = lv c N (HX σ 5) := by
    obtain ⟨r, rfl⟩ : ∃ r, N = r + 1 := ⟨N - 1, by omega⟩
    rw [remS_s, h0]
    show _ ++ [] = _
    rw [List.append_nil]
    rfl
  rw [er] at w2
  rw [w1', Option.bind_some]
  rcases w2 with ⟨q1, rfl, q3⟩ | ⟨p, h, rest, q1, rfl, q3⟩
  · exact ⟨0, m', by show (if (-1 : Int32) = nI N then some (1, m') else some (0, m')) = _; rw [if_neg (mone_ne hN)], Or.inl ⟨q1, rfl, q3⟩, fun q q1 q2 => by rw [w0 q q1 q2, mwI_rk q2, g3 q q1]⟩
  · exact ⟨1, m', by show (if nI N = nI N then some (1, m') else some (0, m')) = _; rw [if_pos rfl], Or.inr ⟨p, h, rest, q1, rfl, q3⟩, fun q q1 q2 => by rw [w0 q q1 q2, mwI_rk q2, g3 q q1]⟩
theorem fol_next {σ μ m : mS} {c : cT} (hG : RG σ μ c) {N : Nat} (h1 : 1 ≤ N) (hN : N ≤ 4) {p : List Nat} {h : hT} {rest : List (List Nat × hT)} {H0 : hT} (hA : AtL μ c N H0 m p h rest) : ∃ x m', X11_follows m (nI N) 0 = some (x, m') ∧ Now μ c N H0 m' x rest ∧ (∀ q, q ≠ 10 → q ≠ 13 → m'.1 q = m.1 q) := by
  obtain ⟨pn, hT, h0, -, -, hr, ms⟩ := hA
  obtain ⟨m', y, w1, w0, w2⟩ := walk hG hN (H0 := H0) big m N pn (Nat.le_refl _) h1 (Or.inr h0) hT (Nat.lt_trans ms (by decide)) ms
  unfold X11_follows
  rw [un1_app, if_pos rfl, if_pos rfl, Option.bind_some, un1_app, w1, Option.bind_some]
  rw [hr] at w2
  rcases w2 with ⟨q1, rfl, q3⟩ | ⟨p, h, rest, q1, rfl, q3⟩
  · exact ⟨0, m', by show (if (-1 : Int32) = nI N then some (1, m') else some (0, m')) = _; rw [if_neg (mone_ne hN)], Or.inl ⟨q1, rfl, q3⟩, w0⟩
  · exact ⟨1, m', by show (if nI N = nI N then some (1, m') else some (0, m')) = _; rw [if_pos rfl], Or.inr ⟨p, h, rest, q1, rfl, q3⟩, w0⟩
/-! the path taken and laid down -/
theorem takes_eq {m : mS} {N : Nat} (hN : N ≤ 4) : ∃ m', X11_takes m (nI N) = some ((), m') ∧ (∀ j, j < N → m'.1 14 j = m.1 13 j) ∧ (∀ q, q ≠ 14 → m'.1 q = m.1 q) ∧ m'.2 = m.2 := by
  unfold X11_takes
  have h := lp_zero (b := un2 (X11_takes_b2 (nI N))) (n := N) (res := mrow m 14 (fun q => if q < N then m.1 13 q else m.1 14 q)) (fun j x => (mrow m 14 (fun q => if q < j then m.1 13 q else m.1 14 q), x)) (by omega) (fun j x hj hx => by
    have xe := i_nI hx
    subst xe
    show X11_takes_b2 (nI N) _ (nI j) = _
    unfold X11_takes_b2
    rw [if_neg (lt_nI (a := j) (b := N) (by omega) (by omega) hj), if_pos (vinI (by omega) (by omega)), if_pos (vinI (by omega) (by omega)), nI_nat (by omega), mwI_row, mrow_mrow, mrow_at, mrow_ne (by decide)]
    congr 3
    congr 1
    funext q
    by_cases e : q = j
    · subst e
      rw [upd_at, if_pos (by omega)]
    · rw [upd_ne e]
      by_cases l : q < j
      · rw [if_pos l, if_pos (by omega)]
      · rw [if_neg l, if_neg (by omega)]) (fun x hx => by
    have xe := i_nI hx
    subst xe
    show X11_takes_b2 (nI N) _ (nI N) = _
    unfold X11_takes_b2
    rw [if_pos le_nI])
  have h' : lp big (un2 (X11_takes_b2 (nI N))) (m, 0) = some (mrow m 14 (fun q => if q < N then m.1 13 q else m.1 14 q)) := by
    have e : mrow m 14 (fun q => if q < 0 then m.1 13 q else m.1 14 q) = m := by
      have : (fun q => if q < 0 then m.1 13 q else m.1 14 q) = m.1 14 := funext (fun q => if_neg (Nat.not_lt_zero _))
      rw [this, mrow_id]
    rw [e] at h
    exact h
  rw [h', Option.bind_some, un1_app]
  exact ⟨_, rfl, fun j hj => by rw [mrow_at, if_pos hj], fun q hq => mrow_ne hq, rfl⟩
theorem comes_eq {m : mS} {r N : Nat} (hr : r < 6) (hN : N ≤ 4) : ∃ m', X11_comes m (nI r) (nI N) = some ((), m') ∧ (∀ j, j < N → m'.1 2 (40 * r + j) = m.1 14 j) ∧ (∀ j, (j < 40 * r ∨ 40 * r + 40 ≤ j) → m'.1 2 j = m.1 2 j) ∧ m'.1 1 = upd (m.1 1) r (nI N) ∧ (∀ q, q ≠ 1 → q ≠ 2 → m'.1 q = m.1 q) ∧ m'.2 = m.2 := by
  unfold X11_comes
  rw [anew_eq m (nI_ti (by omega)) hr (nI_ti (n := N) (by omega)) (by omega), bd_some]
  generalize hm1 : mrow (mrow m 1 (upd (m.1 1) r (nI N))) 2 (seg (40 * r) N 0 (m.1 2)) = m1
  have a1 : m1.1 1 = upd (m.1 1) r (nI N) := by rw [← hm1, mrow_ne (by decide), mrow_at]
  have a2 : m1.1 2 = seg (40 * r) N 0 (m.1 2) := by rw [← hm1, mrow_at]
  have a3 : ∀ q, q ≠ 1 → q ≠ 2 → m1.1 q = m.1 q := fun q q1 q2 => by rw [← hm1, mrow_ne q2, mrow_ne q1]
  have a4 : m1.2 = m.2 := by rw [← hm1]; rfl
  have h := lp_zero (b := un2 (X11_comes_b8 (nI r) (nI N))) (n := N) (res := mrow m1 2 (fun q => if 40 * r ≤ q ∧ q < 40 * r + N then m1.1 14 (q - 40 * r) else m1.1 2 q)) (fun j x => (mrow m1 2 (fun q => if 40 * r ≤ q ∧ q < 40 * r + j then m1.1 14 (q - 40 * r) else m1.1 2 q), x)) (by omega) (fun j x hj hx => by
    have xe := i_nI hx
    subst xe
    show X11_comes_b8 (nI r) (nI N) _ (nI j) = _
    unfold X11_comes_b8
    have c1 := i_ix (c := 40) (cn := 40) (by decide) (nI_ti (n := r) (by omega)) hx (by omega)
    have c2 := i_ixn (c := 40) (cn := 40) (by decide) (nI_ti (n := r) (by omega)) hx (by omega)
    rw [if_neg (lt_nI (a := j) (b := N) (by omega) (by omega) hj), if_pos (vinI (by omega) (by omega)), if_pos (vin_iff.mpr (by rw [c1]; omega) : vin (((40 : Int32) * nI r) + nI j) 240 = true), c2, nI_nat (by omega), mwI_row, mrow_mrow, mrow_at, mrow_ne (by decide)]
    congr 3
    congr 1
    funext q
    by_cases e : q = 40 * r + j
    · subst e
      rw [upd_at, if_pos (by omega), show 40 * r + j - 40 * r = j by omega]
    · rw [upd_ne e]
      by_cases l : 40 * r ≤ q ∧ q < 40 * r + j
      · rw [if_pos l, if_pos (by omega)]
      · rw [if_neg l, if_neg (by omega)]) (fun x hx => by
    have xe := i_nI hx
    subst xe
    show X11_comes_b8 (nI r) (nI N) _ (nI N) = _
    unfold X11_comes_b8
    rw [if_pos le_nI])
  have h' : lp big (un2 (X11_comes_b8 (nI r) (nI N))) (m1, 0) = some (mrow m1 2 (fun q => if 40 * r ≤ q ∧ q < 40 * r + N then m1.1 14 (q - 40 * r) else m1.1 2 q)) := by
    have e : mrow m1 2 (fun q => if 40 * r ≤ q ∧ q < 40 * r + 0 then m1.1 14 (q - 40 * r) else m1.1 2 q) = m1 := by
      have : (fun q => if 40 * r ≤ q ∧ q < 40 * r + 0 then m1.1 14 (q - 40 * r) else m1.1 2 q) = m1.1 2 := funext (fun q => if_neg (by omega))
      rw [this, mrow_id]
    rw [e] at h
    exact h
  rw [h', Option.bind_some, un1_app]
  refine ⟨_, rfl, fun j hj => ?_, fun j hj => ?_, ?_, fun q q1 q2 => ?_, a4⟩
  · rw [mrow_at, if_pos (by omega), show 40 * r + j - 40 * r = j by omega, a3 14 (by decide) (by decide)]
  · rw [mrow_at, if_neg (by omega), a2]
    unfold seg
    rw [if_neg (by omega)]
  · rw [mrow_ne (by decide), a1]
  · rw [mrow_ne q2, a3 q q1 q2]
