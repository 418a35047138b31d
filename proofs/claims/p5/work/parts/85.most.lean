/-! most -/
def WB (c : cT) (h : hT) : Prop := ∀ j, c.1 ≤ j → j < 32 → bt (h 4) j = false
theorem wns_hi {c : cT} {h : hT} {n : Int32} : ∀ k, k ≤ 4 → ∀ j, k ≤ j → j < 32 → bt (wns c h n k) j = false
  | 0, _, j, _, _ => b_0 j
  | k + 1, hk, j, hj, hj2 => by
    show bt (wns c h n k ||| wnb c h n k) j = false
    rw [b_or, wns_hi k (by omega) j (by omega) hj2, Bool.false_or]
    unfold wnb
    split
    · rw [shl_bt (by omega) hj2]
      exact decide_eq_false (by omega)
    · exact b_0 j
theorem WB.ring {c : cT} {h : hT} (hP : c.1 ≤ 4) (hW : WB c h) (n : Int32) : WB c (ringH c h n) := fun j hj hj2 => by
  have e : ringH c h n 4 = h 4 ||| wns c h n c.1 := by unfold ringH; rw [if_neg (by omega), if_pos rfl]
  rw [e, b_or, hW j hj hj2, wns_hi c.1 hP j hj hj2]
  rfl
theorem WB_rpl {c : cT} {dn : Nat → Nat} (hP : c.1 ≤ 4) : ∀ k, (∀ q, q < k → dOK c.1 (dn q)) → WB c (rpl c dn k)
  | 0, _ => fun j _ _ => by
    have e : rpl c dn 0 4 = 0 := rfl
    rw [e]
    exact b_0 j
  | k + 1, h => by
    have ih := WB_rpl hP k (fun q hq => h q (by omega))
    have hk := h k (by omega)
    show WB c (dStep c (rpl c dn k) (dn k))
    unfold dStep
    split
    · exact ih.ring hP _
    · next hn =>
      intro j hj hj2
      unfold turnH
      rw [upd_ne (by unfold dOK at hk; omega)]
      exact ih j hj hj2
theorem RG.wb {σ μ : mS} {c : cT} (hG : RG σ μ c) : WB c (HX σ 5) := by
  obtain ⟨d, dn, h1, h2, h3, h4, h5⟩ := hG.2.2.2.2.2.2.2.1
  rw [hG.2.2.2.2.2.1, h4]
  exact WB_rpl hG.P4 d (fun q hq => (h3 q hq).2)
def wc (h : hT) : Nat := (bitsT (h 4)).toNatClampNeg
theorem wc_tab : ∀ P, P < 5 → ∀ m, m < 16 → (List.range 5).all (fun j => decide (j < P) || !(bt (nI m) j)) = true → bitsT (nI m) = nI ((bitsT (nI m)).toNatClampNeg) ∧ (bitsT (nI m)).toNatClampNeg ≤ P := by decide +kernel
theorem wc_ok {c : cT} {h : hT} (hP : c.1 ≤ 4) (hV : HV h) (hW : WB c h) : bitsT (h 4) = nI (wc h) ∧ J6_bitCount_0f7a4 (h 4) = nI (wc h) ∧ wc h ≤ c.1 := by
  obtain ⟨m, hm, e⟩ := hV.2.1
  have t := wc_tab c.1 (by omega) m hm (List.all_eq_true.mpr (fun j hj => by
    have hj5 := List.mem_range.mp hj
    by_cases q : j < c.1
    · rw [decide_eq_true q]
      rfl
    · have := hW j (by omega) (by omega)
      rw [e] at this
      rw [this]
      simp))
  unfold wc
  rw [e]
  exact ⟨t.1, (bc16 m hm).trans t.1, t.2⟩
/-- the greatest so far (0: none) and its path -/
def mstep (a : Nat × List Nat) (l : List Nat × hT) : Nat × List Nat := if a.1 ≤ wc l.2 then (wc l.2 + 1, l.1) else a
theorem kmI {k : Nat} (hk : k < 1000) : (nI k - 1).toInt = (k : Int) - 1 := by
  rw [i_sub (by rw [nI_ti (by omega)]; show _ ≤ (k : Int) - 1; omega) (by rw [nI_ti (by omega)]; show (k : Int) - 1 < _; omega), nI_ti (by omega)]
  rfl
theorem kmI_s {k : Nat} (hk : k < 999) : nI (k + 1) - 1 = nI k := by
  have e := kmI (k := k + 1) (by omega)
  exact i_nI (by omega)
theorem m_stop {P : Nat} : ∀ (L : List (List Nat × hT)) (a : Nat × List Nat), (∀ l, l ∈ L → wc l.2 ≤ P) → P < a.1 → L.foldl mstep a = a
  | [], a, _, _ => rfl
  | l :: L, a, h, ha => by
    have e : mstep a l = a := by
      unfold mstep
      rw [if_neg (by have := h l List.mem_cons_self; omega)]
    rw [List.foldl_cons, e]
    exact m_stop L a (fun x hx => h x (List.mem_cons_of_mem _ hx)) ha
theorem lv_all {c : cT} (hP : c.1 ≤ 4) : ∀ N h, HV h → WB c h → ∀ l, l ∈ lv c N h → HV l.2 ∧ WB c l.2
  | 0, h, hV, hW, l, hl => by
    rw [List.mem_singleton.mp hl]
    exact ⟨hV, hW⟩
  | N + 1, h, hV, hW, l, hl => by
    obtain ⟨n, hn, hl2⟩ := List.mem_flatMap.mp hl
    obtain ⟨l', hl', rfl⟩ := List.mem_map.mp hl2
    exact lv_all hP N _ (hV.ring hP _) (hW.ring hP _) l' hl'
theorem lv_ne {c : cT} (hP : c.1 ≤ 4) : ∀ N h, N ≤ cnB (h 5) → lv c N h ≠ []
  | 0, h, _ => by intro q; cases q
  | N + 1, h, hN => by
    intro q
    cases hnf : nf (h 5) 12 1 with
    | nil =>
      have : cnB (h 5) = 0 := by unfold cnB; rw [hnf]; rfl
      omega
    | cons n t =>
      have hm : n ∈ nf (h 5) 12 1 := by rw [hnf]; exact List.mem_cons_self
      have hc := cn_ring hP hm
      have hq : (nf (h 5) 12 1).flatMap (fun n => (lv c N (ringH c h (nI n))).map (fun l => (n :: l.1, l.2))) = [] := q
      rw [hnf, List.flatMap_cons] at hq
      have := (List.append_eq_nil_iff.mp hq).1
      exact lv_ne hP N _ (by omega) (List.map_eq_nil_iff.mp this)
/-! the reference -/
theorem most_M {σ μ : mS} {c : cT} (hG : RG σ μ c) {N : Nat} {a1 r10 : Int32} (hl : X11_lesser a1 r10 = nI N) (h1 : 1 ≤ N) (hN : N ≤ 4) {H0 : hT} : ∀ L f m x k p0, Now μ c N H0 m x L → L.length + 1 < f → k ≤ 5 → (∀ l, l ∈ L → HV l.2 ∧ WB c l.2) → (0 < k → ∀ j, j < N → m.1 14 j = nI (p0.getD j 0)) → ∃ m', lp f (un3 (X11_most_b85 a1 r10)) (m, nI k - 1, x) = some (m', nI (L.foldl mstep (k, p0)).1 - 1) ∧ FrM μ m' ∧ (L.foldl mstep (k, p0)).1 ≤ 5 ∧ (0 < (L.foldl mstep (k, p0)).1 → ∀ j, j < N → m'.1 14 j = nI ((L.foldl mstep (k, p0)).2.getD j 0)) := by
  have hP4 := hG.P4
  intro L
  induction L with
  | nil =>
    intro f m x k p0 hNow hf hk hall hp
    obtain ⟨f, rfl⟩ : ∃ g, f = g + 1 := ⟨f - 1, by omega⟩
    rcases hNow with ⟨-, rfl, hF⟩ | ⟨p, h, rest, q, -⟩
    · refine ⟨m, lp_r ?_, hF, hk, hp⟩
      show X11_most_b85 a1 r10 m (nI k - 1) 0 = _
      unfold X11_most_b85
      rw [if_pos rfl]
      rfl
    · exact absurd q (by simp)
  | cons l L ih =>
    intro f m x k p0 hNow hf hk hall hp
    obtain ⟨f, rfl⟩ : ∃ g, f = g + 1 := ⟨f - 1, by omega⟩
    rw [List.length_cons] at hf
    rcases hNow with ⟨q, -, -⟩ | ⟨p, h, rest, q, rfl, hA⟩
    · exact absurd q (by simp)
    obtain ⟨rfl, rfl⟩ := List.cons.inj q
    obtain ⟨hV, hW⟩ := hall (p, h) List.mem_cons_self
    obtain ⟨w1, -, w3⟩ := wc_ok hP4 hV hW
    have w1 : bitsT (h 4) = nI (wc h) := w1
    have w3 : wc h ≤ c.1 := w3
    have ix : ((1312 : Int32) + nI N * 8) + 4 = nI (1312 + 8 * N + 4) := by rw [sl_eq (by omega)]; exact nI_p _ 4 (by omega)
    rw [List.foldl_cons]
    have go : ∀ m1 k1 p1, FrM μ m1 → AtL μ c N H0 m1 p h L → k1 ≤ 5 → mstep (k, p0) (p, h) = (k1, p1) → (0 < k1 → ∀ j, j < N → m1.1 14 j = nI (p1.getD j 0)) → X11_most_b85 a1 r10 m (nI k - 1) 1 = bd (X11_follows m1 (nI N) (0)) (fun r37 s39 => some (.inl (s39, nI k1 - 1, r37))) → ∃ m', lp (f + 1) (un3 (X11_most_b85 a1 r10)) (m, nI k - 1, 1) = some (m', nI (L.foldl mstep (mstep (k, p0) (p, h))).1 - 1) ∧ FrM μ m' ∧ (L.foldl mstep (mstep (k, p0) (p, h))).1 ≤ 5 ∧ (0 < (L.foldl mstep (mstep (k, p0) (p, h))).1 → ∀ j, j < N → m'.1 14 j = nI ((L.foldl mstep (mstep (k, p0) (p, h))).2.getD j 0)) := by
      intro m1 k1 p1 F1 A1 hk1 em hp1 st
      obtain ⟨x', m', g1, g2, g3⟩ := fol_next hG h1 hN A1
      rw [g1, bd_some] at st
      have hp' : 0 < k1 → ∀ j, j < N → m'.1 14 j = nI (p1.getD j 0) := fun h0 j hj => by rw [g3 14 (by decide) (by decide)]; exact hp1 h0 j hj
      obtain ⟨m2, z1, z2⟩ := ih f m' x' k1 p1 g2 (by omega) hk1 (fun x hx => hall x (List.mem_cons_of_mem _ hx)) hp'
      rw [em]
      exact ⟨m2, (lp_l st).trans z1, z2⟩
    have hF : FrM μ m := hA.choose_spec.1.1
    by_cases hle : k ≤ wc h
    · obtain ⟨m1, t1, t2, t3, t4⟩ := takes_eq (m := m) hN
      have F1 : FrM μ m1 := ⟨fun q a1 a2 a3 a4 => by rw [t3 q a3]; exact hF.1 q a1 a2 a3 a4, fun q hq => by rw [t3 10 (by decide)]; exact hF.2.1 q hq, by rw [t4]; exact hF.2.2⟩
      have hS1 : hS m1 = hS m := funext (fun j => by unfold hS; rw [t3 10 (by decide)])
      obtain ⟨pn, hT, a1', a2', a3', a4', a5'⟩ := hA
      refine go m1 (wc h + 1) p F1 ⟨pn, ⟨F1, fun j hj => by rw [t3 13 (by decide)]; exact hT.2 j hj⟩, by rw [hS1]; exact a1', a2', by rw [hS1]; exact a3', by rw [hS1]; exact a4', a5'⟩ (by omega) (if_pos hle) (fun _ j hj => by rw [t2 j hj, (hT.2 j hj).1, ← a2', pfx_get pn hj]) ?_
      unfold X11_most_b85
      rw [if_neg (by decide), hl, ix, if_pos (vinI (by omega) (by omega)), nI_nat (by omega), show m.1 10 (1312 + 8 * N + 4) = h 4 from at_won hN (⟨pn, hT, a1', a2', a3', a4', a5'⟩ : AtL μ c N H0 m p h L) (by omega), bits_eq, Option.bind_some, w1, if_neg (show ¬ nI (wc h) ≤ nI k - 1 from nle (by rw [kmI (by omega), nI_ti (by omega)]; omega)), t1, bd_some, Option.bind_some, kmI_s (by omega)]
      rfl
    · refine go m k p0 hF hA hk (if_neg hle) hp ?_
      unfold X11_most_b85
      rw [if_neg (by decide), hl, ix, if_pos (vinI (by omega) (by omega)), nI_nat (by omega), at_won hN hA (by omega), bits_eq, Option.bind_some, w1, if_pos (show nI (wc h) ≤ nI k - 1 from ile (by rw [kmI (by omega), nI_ti (by omega)]; omega)), Option.bind_some]
      rfl
