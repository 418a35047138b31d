/-! most: the class -/
def Laid (s : mS) (r N : Nat) (p : List Nat) : Prop := s.1 24 r = nI N ∧ ∀ j, j < N → s.1 (16 + r) j = nI (p.getD j 0)
def GX (r : Nat) (s s' : mS) (e : Nat) : Prop := (∀ q, ¬ (144 ≤ q ∧ q < 149) → ¬ (152 ≤ q ∧ q < 157) → q ≠ 192 → q ≠ 200 → q ≠ 0 → q ≠ 24 → q ≠ 16 + r → s'.1 q = s.1 q) ∧ (∀ q, q ≠ 11 → s'.1 0 q = s.1 0 q) ∧ s'.2 = s.2 ∧ (∀ q, q ≠ r → s'.1 24 q = s.1 24 q) ∧ (∀ j, j ≤ e → HX s' j = HX s j) ∧ (∀ j, j < e → s'.1 192 j = s.1 192 j)
theorem GX.rf {r : Nat} {s : mS} {e : Nat} : GX r s s e := ⟨fun _ _ _ _ _ _ _ _ => rfl, fun _ _ => rfl, rfl, fun _ _ => rfl, fun _ _ => rfl, fun _ _ => rfl⟩
theorem GX.tr {r : Nat} {s s' s'' : mS} {e e' : Nat} (h : GX r s s' e) (h' : GX r s' s'' e') (he : e ≤ e') : GX r s s'' e := ⟨fun q a1 a2 a3 a4 a5 a6 a7 => by rw [h'.1 q a1 a2 a3 a4 a5 a6 a7, h.1 q a1 a2 a3 a4 a5 a6 a7], fun q hq => by rw [h'.2.1 q hq, h.2.1 q hq], by rw [h'.2.2.1, h.2.2.1], fun q hq => by rw [h'.2.2.2.1 q hq, h.2.2.2.1 q hq], fun j hj => by rw [h'.2.2.2.2.1 j (by omega), h.2.2.2.2.1 j hj], fun j hj => by rw [h'.2.2.2.2.2 j (by omega), h.2.2.2.2.2 j hj]⟩
theorem GX.cf {r : Nat} {s s' : mS} {e : Nat} {c : cT} (hr : r < 6) (h : GX r s s' e) (hC : CF s c) : CF s' c := hC.of (h.1 _ (by omega) (by omega) (by omega) (by omega) (by omega) (by omega) (by omega)) (h.1 _ (by omega) (by omega) (by omega) (by omega) (by omega) (by omega) (by omega)) (h.1 _ (by omega) (by omega) (by omega) (by omega) (by omega) (by omega) (by omega)) (fun i hi => h.1 _ (by omega) (by omega) (by omega) (by omega) (by omega) (by omega) (by omega))
theorem leaf_X {c : cT} {N r : Nat} (hN : N ≤ 4) (hr : r < 6) {s : mS} {b : hT} {tp : List Nat} {k : Nat} {p0 : List Nat} (hP : c.1 ≤ 4) (hV : HV b) (hW : WB c b) (hH : HX s N = b) (htr : ∀ j, j < N → s.1 192 j = nI (tp.getD j 0)) (hk : s.1 0 11 = nI k - 1) (hk5 : k ≤ 5) (hl : 0 < k → Laid s r N p0) : ∃ s', (if (J6_bitCount_0f7a4 (s.1 (144 + N) 2)) ≤ (s.1 0 11) then some ((), s) else bd (X10_layTrail (mwI s 0 11 (J6_bitCount_0f7a4 (s.1 (144 + N) 2))) (nI r) (nI N)) (fun r7 s9 => some ((), s9))) = some ((), s') ∧ GX r s s' N ∧ s'.1 0 11 = nI (mstep (k, p0) (tp, b)).1 - 1 ∧ (mstep (k, p0) (tp, b)).1 ≤ 5 ∧ (0 < (mstep (k, p0) (tp, b)).1 → Laid s' r N (mstep (k, p0) (tp, b)).2) := by
  obtain ⟨w1, w2, w3⟩ := wc_ok hP hV hW
  have e4 : s.1 (144 + N) 2 = b 4 := by rw [← hH]; rfl
  rw [e4, w2, hk]
  unfold mstep
  by_cases hle : k ≤ wc b
  · rw [if_pos (show (k, p0).1 ≤ wc (tp, b).2 from hle), if_neg (show ¬ nI (wc b) ≤ nI k - 1 from nle (by rw [kmI (by omega), nI_ti (by omega)]; omega))]
    obtain ⟨τ, x1, x2, x3, x4, x5⟩ := lay_X (s := mwI s 0 11 (nI (wc b))) hr hN
    rw [x1, bd_some]
    refine ⟨τ, rfl, ⟨fun q a1 a2 a3 a4 a5 a6 a7 => by rw [x3 q a6 a7, mwI_rk a5], fun q hq => by rw [x3 0 (by omega) (by omega), mwI_row, mrow_at, upd_ne hq], x4, fun q hq => by rw [x2, upd_ne hq, mwI_rk (by decide)], fun j hj => HX_of (by rw [x3 _ (by omega) (by omega), mwI_rk (by omega)]) (by rw [x3 _ (by omega) (by omega), mwI_rk (by omega)]), fun j hj => by rw [x3 192 (by omega) (by omega), mwI_rk (by decide)]⟩, ?_, ?_, fun _ => ⟨?_, fun j hj => ?_⟩⟩
    · rw [x3 0 (by omega) (by omega), mwI_row, mrow_at, upd_at]
      exact (kmI_s (by omega)).symm
    · show wc b + 1 ≤ 5
      omega
    · rw [x2, upd_at]
    · rw [x5 j hj, mwI_rk (by decide)]
      exact htr j hj
  · rw [if_neg (show ¬ (k, p0).1 ≤ wc (tp, b).2 from hle), if_pos (show nI (wc b) ≤ nI k - 1 from ile (by rw [kmI (by omega), nI_ti (by omega)]; omega))]
    exact ⟨s, rfl, GX.rf, hk, hk5, hl⟩
theorem getD_app {tp l : List Nat} {j : Nat} (h : j < tp.length) : (tp ++ l).getD j 0 = tp.getD j 0 := by
  rw [List.getD_eq_getElem?_getD, List.getD_eq_getElem?_getD, List.getElem?_append_left h]
theorem getD_at {tp : List Nat} {x : Nat} : (tp ++ [x]).getD tp.length 0 = x := by
  rw [List.getD_eq_getElem?_getD, List.getElem?_append_right (Nat.le_refl _), Nat.sub_self]
  rfl
theorem gather_X {c : cT} (hP : c.1 ≤ 4) {N r : Nat} (hN : N ≤ 4) (hr : r < 6) : ∀ n f s e b tp k p0, e + n = N → n < f → CF s c → HV b → WB c b → HX s e = b → tp.length = e → (∀ j, j < e → s.1 192 j = nI (tp.getD j 0)) → s.1 0 11 = nI k - 1 → k ≤ 5 → (0 < k → Laid s r N p0) → ∃ s', X10_gatherMost f s (nI r) (nI e) (nI N) = some ((), s') ∧ GX r s s' e ∧ s'.1 0 11 = nI (((lv c n b).map (fun l => (tp ++ l.1, l.2))).foldl mstep (k, p0)).1 - 1 ∧ (((lv c n b).map (fun l => (tp ++ l.1, l.2))).foldl mstep (k, p0)).1 ≤ 5 ∧ (0 < (((lv c n b).map (fun l => (tp ++ l.1, l.2))).foldl mstep (k, p0)).1 → Laid s' r N (((lv c n b).map (fun l => (tp ++ l.1, l.2))).foldl mstep (k, p0)).2) := by
  intro n
  induction n with
  | zero =>
    intro f s e b tp k p0 he hf hC hV hW hH ht htr hk hk5 hl
    obtain ⟨f, rfl⟩ : ∃ g, f = g + 1 := ⟨f - 1, by omega⟩
    have en : e = N := by omega
    subst en
    obtain ⟨s', g1, g2, g3⟩ := leaf_X hN hr (tp := tp) hP hV hW hH htr hk hk5 hl
    have eL : ((lv c 0 b).map (fun l => (tp ++ l.1, l.2))).foldl mstep (k, p0) = mstep (k, p0) (tp, b) := by
      show mstep (k, p0) (tp ++ [], b) = _
      rw [List.append_nil]
    rw [eL]
    refine ⟨s', ?_, g2, g3⟩
    show X10_gatherMost_F (X10_gatherMost f) s (nI r) (nI e) (nI e) = _
    unfold X10_gatherMost_F
    rw [if_pos (vinI (by omega) (by omega)), if_pos le_nI, nI_nat (by omega)]
    exact g1
  | succ n ih =>
    intro f s e b tp k p0 he hf hC hV hW hH ht htr hk hk5 hl
    obtain ⟨f, rfl⟩ : ∃ g, f = g + 1 := ⟨f - 1, by omega⟩
    have loop : ∀ d g x s1 k1 p1, x + d = 13 → 1 ≤ x → d < g → GX r s s1 e → s1.1 0 11 = nI k1 - 1 → k1 ≤ 5 → (0 < k1 → Laid s1 r N p1) → ∃ s', lp g (un2 (X10_gatherMost_b53 (X10_gatherMost f) (nI r) (nI e) (nI N))) (s1, nI x) = some s' ∧ GX r s s' e ∧ s'.1 0 11 = nI ((((nf (b 5) d x).flatMap (fun n' => (lv c n (ringH c b (nI n'))).map (fun l => (n' :: l.1, l.2)))).map (fun l => (tp ++ l.1, l.2))).foldl mstep (k1, p1)).1 - 1 ∧ ((((nf (b 5) d x).flatMap (fun n' => (lv c n (ringH c b (nI n'))).map (fun l => (n' :: l.1, l.2)))).map (fun l => (tp ++ l.1, l.2))).foldl mstep (k1, p1)).1 ≤ 5 ∧ (0 < ((((nf (b 5) d x).flatMap (fun n' => (lv c n (ringH c b (nI n'))).map (fun l => (n' :: l.1, l.2)))).map (fun l => (tp ++ l.1, l.2))).foldl mstep (k1, p1)).1 → Laid s' r N ((((nf (b 5) d x).flatMap (fun n' => (lv c n (ringH c b (nI n'))).map (fun l => (n' :: l.1, l.2)))).map (fun l => (tp ++ l.1, l.2))).foldl mstep (k1, p1)).2) := by
      intro d
      induction d with
      | zero =>
        intro g x s1 k1 p1 hx x1 hg hA hk1 hk15 hl1
        obtain ⟨g, rfl⟩ : ∃ q, g = q + 1 := ⟨g - 1, by omega⟩
        have e13 : x = 13 := by omega
        subst e13
        exact ⟨s1, lp_r rfl, hA, hk1, hk15, hl1⟩
      | succ d ihd =>
        intro g x s1 k1 p1 hx x1 hg hA hk1 hk15 hl1
        obtain ⟨g, rfl⟩ : ∃ q, g = q + 1 := ⟨g - 1, by omega⟩
        have hH1 : HX s1 e = b := by rw [hA.2.2.2.2.1 e (Nat.le_refl _), hH]
        have bag : HX s1 e 5 = b 5 := by rw [hH1]
        have hC1 : CF s1 c := hA.cf hr hC
        have l12 : ¬ (12 : Int32) < nI x := fun q => by have := i_lt.mp q; rw [nI_ti (by omega)] at this; have : (12 : Int) < x := this; omega
        have hP88 : s1.1 88 4 = nI c.1 := i_nI hC1.1
        by_cases stop : c.1 < k1
        · have all : ∀ l, l ∈ ((nf (b 5) (d + 1) x).flatMap (fun n' => (lv c n (ringH c b (nI n'))).map (fun l => (n' :: l.1, l.2)))).map (fun l => (tp ++ l.1, l.2)) → wc l.2 ≤ c.1 := by
            intro l hl
            obtain ⟨l1, h1, rfl⟩ := List.mem_map.mp hl
            obtain ⟨n', -, h2⟩ := List.mem_flatMap.mp h1
            obtain ⟨l2, h3, rfl⟩ := List.mem_map.mp h2
            obtain ⟨v1, v2⟩ := lv_all hP n _ (hV.ring hP _) (hW.ring hP _) l2 h3
            exact (wc_ok hP v1 v2).2.2
          rw [m_stop (P := c.1) _ (k1, p1) all stop]
          refine ⟨s1, lp_r ?_, hA, hk1, hk15, hl1⟩
          show X10_gatherMost_b53 (X10_gatherMost f) (nI r) (nI e) (nI N) s1 (nI x) = _
          unfold X10_gatherMost_b53
          rw [if_neg l12, hP88, hk1, if_pos (show nI c.1 ≤ nI k1 - 1 from ile (by rw [kmI (by omega), nI_ti (by omega)]; omega))]
        have nstop : ¬ nI c.1 ≤ nI k1 - 1 := nle (by rw [kmI (by omega), nI_ti (by omega)]; omega)
        by_cases q : bt (b 5) x = true
        · rw [nf_y q, List.flatMap_cons, List.map_append, List.foldl_append]
          obtain ⟨s2, t1, t2, t3, t4, t5, t6⟩ := step15 (σ := s1) (s := s1) (n := x) (show e < 4 by omega) FrX.rf hC1 (by rw [hH1]; exact hV) (by omega)
          rw [hH1] at t2
          have A2 : GX r s1 s2 e := ⟨fun q' a1 a2 a3 a4 a5 _ _ => t3.1 q' a1 a2 a3 a4 a5, t3.2.1, t3.2.2, fun q' _ => by rw [t3.1 24 (by omega) (by omega) (by omega) (by omega) (by omega)], fun j hj => t4 j (by omega) (by omega), fun j hj => by rw [t5, upd_ne (by omega)]⟩
          have hC2 : CF s2 c := t3.cf hC1
          obtain ⟨s3, u1, u2, u3, u4, u5⟩ := ih f s2 (e + 1) (ringH c b (nI x)) (tp ++ [x]) k1 p1 (by omega) (by omega) hC2 (hV.ring hP _) (hW.ring hP _) t2 (by rw [List.length_append, ht]; rfl) (fun j hj => by
            rw [t5]
            by_cases ej : j = e
            · subst ej
              rw [upd_at]
              have := getD_at (tp := tp) (x := x)
              rw [ht] at this
              rw [this]
            · rw [upd_ne ej, getD_app (by omega), hA.2.2.2.2.2 j (by omega)]
              exact htr j (by omega)) (by rw [t6]; exact hk1) hk15 (fun h0 => by
              obtain ⟨y1, y2⟩ := hl1 h0
              exact ⟨by rw [t3.1 24 (by omega) (by omega) (by omega) (by omega) (by omega)]; exact y1, fun j hj => by rw [t3.1 (16 + r) (by omega) (by omega) (by omega) (by omega) (by omega)]; exact y2 j hj⟩)
          have eL : ((lv c n (ringH c b (nI x))).map (fun l => (x :: l.1, l.2))).map (fun l => (tp ++ l.1, l.2)) = (lv c n (ringH c b (nI x))).map (fun l => (tp ++ [x] ++ l.1, l.2)) := by
            rw [List.map_map]
            congr 1
            funext l
            show (tp ++ x :: l.1, l.2) = (tp ++ [x] ++ l.1, l.2)
            rw [List.append_assoc]
            rfl
          rw [eL]
          have st : X10_gatherMost_b53 (X10_gatherMost f) (nI r) (nI e) (nI N) s1 (nI x) = some (.inl (s3, nI (x + 1))) := by
            unfold X10_gatherMost_b53
            rw [if_neg l12, hP88, hk1, if_neg nstop, nI_nat (by omega), holdsX (by omega), bag, if_pos q, if_neg (by decide), t1, bd_some, nI_s e (by omega), u1, bd_some, nI_s x (by omega)]
          obtain ⟨s', z1, z2⟩ := ihd g (x + 1) s3 _ _ (by omega) (by omega) (by omega) (hA.tr (A2.tr u2 (by omega)) (Nat.le_refl _)) u3 u4 u5
          exact ⟨s', (lp_l st).trans z1, z2⟩
        · rw [nf_n q]
          have st : X10_gatherMost_b53 (X10_gatherMost f) (nI r) (nI e) (nI N) s1 (nI x) = some (.inl (s1, nI (x + 1))) := by
            unfold X10_gatherMost_b53
            rw [if_neg l12, hP88, hk1, if_neg nstop, nI_nat (by omega), holdsX (by omega), bag, if_neg q, if_pos rfl, nI_s x (by omega)]
          obtain ⟨s', z1, z2⟩ := ihd g (x + 1) s1 k1 p1 (by omega) (by omega) (by omega) hA hk1 hk15 hl1
          exact ⟨s', (lp_l st).trans z1, z2⟩
    obtain ⟨s', z1, z2⟩ := loop 12 big 1 s k p0 rfl (Nat.le_refl _) (by show 12 < 1000000; omega) GX.rf hk hk5 hl
    have z1' : lp big (un2 (X10_gatherMost_b53 (X10_gatherMost f) (nI r) (nI e) (nI N))) (s, 1) = some s' := z1
    refine ⟨s', ?_, z2⟩
    show X10_gatherMost_F (X10_gatherMost f) s (nI r) (nI e) (nI N) = _
    unfold X10_gatherMost_F
    rw [if_pos (vinI (by omega) (by omega)), if_neg (lt_nI (by omega) (by omega) (by omega)), if_pos (i_lt.mpr (by rw [nI_ti (by omega)]; show (e : Int) < 4; omega)), z1', Option.bind_some, un1_app]
