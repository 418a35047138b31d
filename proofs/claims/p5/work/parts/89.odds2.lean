theorem sum_X {σ μ : mS} {c : cT} (hG : RG σ μ c) {t i : Nat} (ht : t < 2) (hi : i < c.1) {N : Nat} (hN : N ≤ 3) : ∀ r f s e b, e + r = N → r < f → FrX σ s → HV (HX s e) → HV b → EqW c ((1 : Int32) <<< (nI i &&& 31)) (HX s e) b → ∃ s', X10_sumAhead f s (nI i) (nI t) (nI e) (nI N) = some (qL (sm t i (lv c r b)), s') ∧ AX σ s s' e := by
  have hP4 := hG.P4
  intro r
  induction r with
  | zero =>
    intro f s e b he hf hF hV hVb hE
    obtain ⟨f, rfl⟩ : ∃ g, f = g + 1 := ⟨f - 1, by omega⟩
    have en : e = N := by omega
    subst en
    refine ⟨s, ?_, ⟨hF, fun _ _ => rfl, fun _ _ => rfl, rfl⟩⟩
    show X10_sumAhead_F (X10_sumAhead f) s (nI i) (nI t) (nI e) (nI e) = some (qL (vl t i b + 0), s)
    unfold X10_sumAhead_F
    rw [if_pos (vinI (by omega) (by omega)), if_pos le_nI, nI_nat (n := e) (by omega), Nat.add_zero]
    exact leaf_S hG ht hi hVb hE
  | succ r ih =>
    intro f s e b he hf hF hV hVb hE
    obtain ⟨f, rfl⟩ : ∃ g, f = g + 1 := ⟨f - 1, by omega⟩
    have loop : ∀ d g x s1 A, x + d = 13 → 1 ≤ x → d < g → AX σ s s1 e → A ≤ 13000 * (13 - d) → ∃ s', lp g (un3 (X10_sumAhead_b54 (X10_sumAhead f) (nI i) (nI t) (nI e) (nI N))) (s1, qL A, nI x) = some (s', qL (A + sm t i ((nf (b 5) d x).flatMap (fun n => (lv c r (ringH c b (nI n))).map (fun l => (n :: l.1, l.2)))))) ∧ AX σ s s' e := by
      intro d
      induction d with
      | zero =>
        intro g x s1 A hx x1 hg hA hb
        obtain ⟨g, rfl⟩ : ∃ q, g = q + 1 := ⟨g - 1, by omega⟩
        have e13 : x = 13 := by omega
        subst e13
        exact ⟨s1, lp_r rfl, hA⟩
      | succ d ihd =>
        intro g x s1 A hx x1 hg hA hb
        obtain ⟨g, rfl⟩ : ∃ q, g = q + 1 := ⟨g - 1, by omega⟩
        have bag : HX s1 e 5 = b 5 := by rw [hA.2.1 e (Nat.le_refl _)]; exact hE.2.1
        have l12 : ¬ (12 : Int32) < nI x := fun q => by have := i_lt.mp q; rw [nI_ti (by omega)] at this; have : (12 : Int) < x := this; omega
        by_cases q : bt (b 5) x = true
        · have hVs : HV (HX s1 e) := by rw [hA.2.1 e (Nat.le_refl _)]; exact hV
          obtain ⟨v, s2, t1, t2, t3, t4, t5, t6⟩ := stepW (who := (1 : Int32) <<< (nI i &&& 31)) (n := x) (show e < 4 by omega) hA.1 hG.2.2.2.1 hVs (by omega)
          have A2 : AX σ s1 s2 e := ⟨t3, fun j hj => t4 j (by omega) (by omega), fun j hj => by rw [t5, upd_ne (by omega)], t6⟩
          have E2 : EqW c ((1 : Int32) <<< (nI i &&& 31)) (HX s2 (e + 1)) (ringH c b (nI x)) := by
            rw [t2, hA.2.1 e (Nat.le_refl _)]
            exact hE.ring hP4 _
          obtain ⟨s3, u1, u2⟩ := ih f s2 (e + 1) (ringH c b (nI x)) (by omega) (by omega) t3 (by rw [t2]; exact HV_rW hVs hP4 _ _) (hVb.ring hP4 _) E2
          have A3 : AX σ s s3 e := hA.tr (A2.tr u2 (by omega)) (Nat.le_refl _)
          have sl := sm_le (t := t) (show i < 4 by omega) (lv c r (ringH c b (nI x))) (lv_allV hP4 r _ (hVb.ring hP4 _))
          have ll := lv_len c r (ringH c b (nI x))
          have lp2 : 12 ^ r ≤ 12 ^ 2 := Nat.pow_le_pow_right (by omega) (by omega)
          have lp3 : (12 : Nat) ^ 2 = 144 := rfl
          have st : X10_sumAhead_b54 (X10_sumAhead f) (nI i) (nI t) (nI e) (nI N) s1 (qL A) (nI x) = some (.inl (s3, qL (A + sm t i (lv c r (ringH c b (nI x)))), nI (x + 1))) := by
            unfold X10_sumAhead_b54
            rw [if_neg l12, nI_nat (by omega), holdsX (by omega), bag, if_pos q, if_neg (by decide), t1, bd_some, nI_s e (by omega), u1, bd_some, nI_s x (by omega), qL_add (by omega)]
          obtain ⟨s', z1, z2⟩ := ihd g (x + 1) s3 (A + sm t i (lv c r (ringH c b (nI x)))) (by omega) (by omega) (by omega) A3 (by omega)
          refine ⟨s', (lp_l st).trans ?_, z2⟩
          rw [z1, nf_y q, List.flatMap_cons, sm_app, sm_map t i (fun l => x :: l), Nat.add_assoc]
        · have st : X10_sumAhead_b54 (X10_sumAhead f) (nI i) (nI t) (nI e) (nI N) s1 (qL A) (nI x) = some (.inl (s1, qL A, nI (x + 1))) := by
            unfold X10_sumAhead_b54
            rw [if_neg l12, nI_nat (by omega), holdsX (by omega), bag, if_neg q, if_pos rfl, nI_s x (by omega)]
          rw [nf_n q]
          obtain ⟨s', z1, z2⟩ := ihd g (x + 1) s1 A (by omega) (by omega) (by omega) hA (by omega)
          exact ⟨s', (lp_l st).trans z1, z2⟩
    obtain ⟨s', z1, z2⟩ := loop 12 big 1 s 0 rfl (Nat.le_refl _) (by show 12 < 1000000; omega) ⟨hF, fun _ _ => rfl, fun _ _ => rfl, rfl⟩ (Nat.zero_le _)
    have z1' : lp big (un3 (X10_sumAhead_b54 (X10_sumAhead f) (nI i) (nI t) (nI e) (nI N))) (s, 0, 1) = some (s', qL (0 + sm t i (lv c (r + 1) b))) := z1
    refine ⟨s', ?_, z2⟩
    show X10_sumAhead_F (X10_sumAhead f) s (nI i) (nI t) (nI e) (nI N) = _
    unfold X10_sumAhead_F
    rw [if_pos (vinI (by omega) (by omega)), if_neg (lt_nI (by omega) (by omega) (by omega)), if_pos (i_lt.mpr (by rw [nI_ti (by omega)]; show (e : Int) < 4; omega)), z1', Option.bind_some, Nat.zero_add]
    rfl
theorem sum_M {σ μ : mS} {c : cT} (hG : RG σ μ c) {t i N : Nat} (ht : t < 2) (hi : i < c.1) {a2 r2 : Int32} (hl : X11_lesser a2 r2 = nI N) (h1 : 1 ≤ N) (hN : N ≤ 3) {H0 : hT} : ∀ L f m x A B, Now μ c N H0 m x L → L.length + 1 < f → A + 6 * L.length ≤ 1000000 → B + L.length ≤ 1000000 → L.length ≤ 20736 → (∀ l, l ∈ L → HV l.2) → ∃ m', lp f (un4 (X11_lot_b88 (nI i) a2 (nI (1 - t)) r2)) (m, qL A, qL B, x) = some (m', qL (A + sm t i L), qL (B + L.length)) ∧ FrM μ m' := by
  have hP4 := hG.P4
  intro L
  induction L with
  | nil =>
    intro f m x A B hNow hf hA hB hlen hall
    obtain ⟨f, rfl⟩ : ∃ g, f = g + 1 := ⟨f - 1, by omega⟩
    rcases hNow with ⟨-, rfl, hF⟩ | ⟨p, h, rest, q, -⟩
    · refine ⟨m, lp_r ?_, hF⟩
      show X11_lot_b88 (nI i) a2 (nI (1 - t)) r2 m (qL A) (qL B) 0 = _
      unfold X11_lot_b88
      rw [if_pos rfl]
      rfl
    · exact absurd q (by simp)
  | cons l L ih =>
    intro f m x A B hNow hf hA hB hlen hall
    obtain ⟨f, rfl⟩ : ∃ g, f = g + 1 := ⟨f - 1, by omega⟩
    rw [List.length_cons] at hf hlen hA hB
    rcases hNow with ⟨q, -, -⟩ | ⟨p, h, rest, q, rfl, hAt⟩
    · exact absurd q (by simp)
    obtain ⟨rfl, rfl⟩ := List.cons.inj q
    have hV : HV h := hall (p, h) List.mem_cons_self
    have vle := vl_ok hV (t := t) (show i < 4 by omega)
    have i4 : ((1312 : Int32) + nI N * 8) + 4 = nI (1312 + 8 * N + 4) := by rw [sl_eq (by omega)]; exact nI_p _ 4 (by omega)
    have ii : ((1312 : Int32) + nI N * 8) + nI i = nI (1312 + 8 * N + i) := by rw [sl_eq (by omega)]; exact nI_p _ i (by omega)
    obtain ⟨x', m', g1, g2, -⟩ := fol_next hG h1 (by omega) hAt
    have val : (if nI (1 - t) = 0 then (if vin (((1312 : Int32) + ((X11_lesser a2 r2) * 8)) + 4) 1360 = true then some (((((m.1 10 (((1312 : Int32) + ((X11_lesser a2 r2) * 8)) + 4).toNatClampNeg) >>> (nI i &&& 31)) &&& 1)).toInt64) else none) else (if vin (((1312 : Int32) + ((X11_lesser a2 r2) * 8)) + nI i) 1360 = true then (X11_bits (m.1 10 (((1312 : Int32) + ((X11_lesser a2 r2) * 8)) + nI i).toNatClampNeg)).bind (fun r43 => some ((r43).toInt64)) else none)) = some (qL (vl t i h)) := by
      rw [hl, i4, ii, if_pos (vinI (by omega) (by omega)), if_pos (vinI (by omega) (by omega)), nI_nat (by omega), nI_nat (by omega), at_won (by omega) hAt (by omega), at_won (by omega) hAt (show i < 8 by omega), bits_eq, Option.bind_some, bit_eq _ (by omega)]
      unfold vl
      rcases (show t = 0 ∨ t = 1 by omega) with rfl | rfl
      · rw [if_neg (show ¬ nI (1 - 0) = 0 by decide), if_pos rfl]
        obtain ⟨mm, hm, em⟩ := hV.1 i (by omega)
        rw [em]
        have := (bits7 mm hm).1
        unfold qL
        rw [← this]
      · rw [if_pos (show nI (1 - 1) = 0 from rfl), if_neg (show ¬ (1 : Nat) = 0 by decide)]
        cases bt (h 4) i <;> rfl
    have st : X11_lot_b88 (nI i) a2 (nI (1 - t)) r2 m (qL A) (qL B) 1 = some (.inl (m', qL (A + vl t i h), qL (B + 1), x')) := by
      unfold X11_lot_b88
      rw [if_neg (by decide), val, Option.bind_some, un1_app, hl, g1, bd_some, qL_add (by omega)]
      have : qL B + 1 = qL (B + 1) := qL_add (a := B) (b := 1) (by omega)
      rw [this]
    obtain ⟨m2, z1, z2⟩ := ih f m' x' (A + vl t i h) (B + 1) g2 (by omega) (by omega) (by omega) (by omega) (fun x hx => hall x (List.mem_cons_of_mem _ hx))
    refine ⟨m2, (lp_l st).trans ?_, z2⟩
    rw [z1]
    show some (m2, qL (A + vl t i h + sm t i L), qL (B + 1 + L.length)) = some (m2, qL (A + (vl t i h + sm t i L)), qL (B + (L.length + 1)))
    rw [Nat.add_assoc, Nat.add_assoc, Nat.add_comm 1 L.length]
def fp (B : Nat) : Nat → Nat
  | 0 => 1
  | j + 1 => fp B j * (B - j)
theorem fp_tab : ∀ B, B < 13 → ∀ N, N < 4 → fp B N = ff B N ∧ fp B N ≤ 1728 := by decide +kernel
theorem ff_pos : ∀ B, B < 13 → ∀ N, N < 4 → N ≤ B → 0 < ff B N := by decide +kernel
theorem orders_eq {s : mS} {B N : Nat} (hb : J6_bitCount_0f7a4 (s.1 (144 + 5) 3) = nI B) (hB : B < 13) (hN : N < 4) (hNB : N ≤ B) : X10_orders s (nI N) = some (qL (ff B N)) := by
  unfold X10_orders
  have h := lp_zero (b := un2 (X10_orders_b17 s (nI N))) (n := N) (res := qL (fp B N)) (fun j x => (qL (fp B j), x)) (by omega) (fun j x hj hx => by
    have xe := i_nI hx
    subst xe
    show X10_orders_b17 s (nI N) (qL (fp B j)) (nI j) = some (.inl (qL (fp B j * (B - j)), nI j + 1))
    unfold X10_orders_b17
    have e : nI B - nI j = nI (B - j) := i_nI (by rw [i_sub (by rw [nI_ti (by omega), nI_ti (by omega)]; omega) (by rw [nI_ti (by omega), nI_ti (by omega)]; omega), nI_ti (by omega), nI_ti (by omega)]; omega)
    have l := (fp_tab B hB j (by omega)).2
    rw [if_neg (lt_nI (a := j) (b := N) (by omega) (by omega) hj), hb, e]
    have := qL_mul (a := fp B j) (b := B - j) (by omega) (by omega)
    unfold qL at this
    unfold qL
    rw [this]) (fun x hx => by
    have xe := i_nI hx
    subst xe
    show X10_orders_b17 s (nI N) _ (nI N) = _
    unfold X10_orders_b17
    rw [if_pos le_nI])
  have h' : lp big (un2 (X10_orders_b17 s (nI N))) (1, 0) = some (qL (fp B N)) := h
  rw [h', Option.bind_some, un1_app, (fp_tab B hB N hN).1]
theorem RR.tell {σ μ : mS} (h : RR σ μ) (u l : Int64) : RR (mwL (mwL σ 0 14 u) 0 15 l) (mwL (mwL μ 0 15 u) 0 16 l) := by
  obtain ⟨hW, hT, hG, o1, o2, o3, o4, o5⟩ := h
  exact ⟨hW, hT, hG, o1, rfl, rfl, o4, o5⟩
theorem tell_both {σ μ s m : mS} (h : RR σ μ) (hX : FrX σ s) (hM : FrM μ m) {S O : Nat} (hS : S < 1000000) (hO : O ≤ 1728) (h0 : 0 < O) : SIM (bd (X10_tell s (qL S) (qL O)) (fun r16 s18 => some (1, s18))) (bd (X11_fraction m (qL S) (qL O)) (fun r25 s27 => some (r25, s27))) := by
  unfold X10_tell X10_commonDivisor X11_fraction
  obtain ⟨g, g0, g1, g2, g3, -⟩ := gcd_both 11 S O 0 big big (by omega) (by show O < 2048; omega) (by omega) (by omega) (by show 23 < 1000000; omega) (by show 23 < 1000000; omega)
  have g1' : lp big (un3 X10_commonDivisor_b9) (qL S, qL O, 0) = some (qL g) := g1
  have gp := g3 h0
  have nz : ¬ qL g = 0 := fun q => by have := (qL_z g0).mp q; omega
  have np : ¬ qL g ≤ 0 := fun q => by
    have := l_le.mp q
    rw [qL_ti g0] at this
    have : (g : Int) ≤ 0 := this
    omega
  rw [g1', g2, Option.bind_some, Option.bind_some, un1_app, un1_app, Option.bind_some, if_neg np, if_pos nz, if_pos nz, if_pos nz, if_pos nz, bd_some, bd_some]
  exact SIM.ret ((h.tri hX hM).tell _ _) rfl
theorem lot_main {σ μ : mS} {c : cT} (h : RR σ μ) (hG : RG σ μ c) {t i a : Nat} (ht : t < 2) (hi : i < c.1) (ha : a ≤ 3) : SIM (bd (X10_callsAhead σ (nI a)) (fun r8 s10 => bd (X10_sumAhead 6 s10 (nI i) (nI t) (0) r8) (fun r11 s13 => (X10_orders s13 r8).bind (fun r14 => bd (X10_tell s13 r11 r14) (fun r16 s18 => some (1, s18)))))) (bd (X11_lot μ (nI i) (nI a) (nI (1 - t))) (fun r7 s9 => some (r7, s9))) := by
  have hP4 := hG.P4
  obtain ⟨s, c1, c2, c3, c4⟩ := ca_eq hG (FrX.rf (σ := σ)) (a := a) (by omega)
  have cle := cnB_le (HX σ 5 5)
  have eN : min (min a 4) (cnB (HX σ 5 5)) = min a (cnB (HX σ 5 5)) := by omega
  have hles : X11_lesser (nI a) (nI (cnB (HX σ 5 5))) = nI (min a (cnB (HX σ 5 5))) := lesser_n (by omega) (by omega)
  have hNc : min a (cnB (HX σ 5 5)) ≤ cnB (HX σ 5 5) := by omega
  have hN : min a (cnB (HX σ 5 5)) ≤ 3 := by omega
  rw [c1, bd_some, eN]
  generalize min a (cnB (HX σ 5 5)) = N at hles hNc hN eN
  obtain ⟨s', u1, u2⟩ := sum_X hG ht hi hN N 6 s 0 (HX σ 5) (by omega) (by omega) c2 (by rw [c3]; exact hG.hv) hG.hv (by rw [c3]; exact EqW.rf)
  have u1' : X10_sumAhead 6 s (nI i) (nI t) 0 (nI N) = some (qL (sm t i (lv c N (HX σ 5))), s') := u1
  obtain ⟨nb, hnb, eb⟩ := hG.hv.2.2
  have b5 : J6_bitCount_0f7a4 (s'.1 (144 + 5) 3) = nI (cnB (HX σ 5 5)) := by
    have e : s'.1 (144 + 5) = σ.1 (144 + 5) := u2.1.1 _ (by omega) (by omega) (by omega) (by omega) (by omega)
    have e2 : s'.1 (144 + 5) 3 = HX σ 5 5 := by rw [e]; rfl
    rw [e2, eb]
    exact (cn_bits nb hnb).1
  have hor := orders_eq b5 (by omega) (show N < 4 by omega) hNc
  rw [u1', bd_some, hor, Option.bind_some]
  have hcnt := lv_cnt hP4 N (HX σ 5)
  have hO := (fp_tab (cnB (HX σ 5 5)) (by omega) N (by omega))
  have hOp := ff_pos (cnB (HX σ 5 5)) (by omega) N (by omega) hNc
  have hallV := lv_allV hP4 N (HX σ 5) hG.hv
  have hsl := sm_le (t := t) (show i < 4 by omega) (lv c N (HX σ 5)) hallV
  have hO2 : ff (cnB (HX σ 5 5)) N ≤ 1728 := by rw [← hO.1]; exact hO.2
  unfold X11_lot
  rw [if_pos (by decide), show (5 : Int32).toNatClampNeg = 5 by decide, bag_bits hG, Option.bind_some, hles]
  by_cases n0 : N = 0
  · subst n0
    have z0 : nI 0 ≤ 0 := by decide
    have v1 : (if nI (1 - t) = 0 then (if vin 4 1360 = true then some (((((μ.1 10 (4 : Int32).toNatClampNeg) >>> (nI i &&& 31)) &&& 1)).toInt64) else none) else (if vin (nI i) 1360 = true then (X11_bits (μ.1 10 (nI i).toNatClampNeg)).bind (fun r68 => some ((r68).toInt64)) else none)) = some (qL (vl t i (HX σ 5))) := by
      have e4 : μ.1 10 4 = HX σ 5 4 := hG.won
      have ei : μ.1 10 i = HX σ 5 i := by rw [hG.2.2.2.2.2.1, getH_lt (by omega), Nat.zero_add]
      rw [if_pos (show vin 4 1360 = true by decide), if_pos (vinI (by omega) (by omega)), show (4 : Int32).toNatClampNeg = 4 by decide, nI_nat (by omega), e4, ei, bits_eq, Option.bind_some, bit_eq _ (by omega)]
      unfold vl
      rcases (show t = 0 ∨ t = 1 by omega) with rfl | rfl
      · rw [if_neg (show ¬ nI (1 - 0) = 0 by decide), if_pos rfl]
        obtain ⟨mm, hm, em⟩ := hG.hv.1 i (by omega)
        rw [em]
        have := (bits7 mm hm).1
        unfold qL
        rw [← this]
      · rw [if_pos (show nI (1 - 1) = 0 from rfl), if_neg (show ¬ (1 : Nat) = 0 by decide)]
        cases bt (HX σ 5 4) i <;> rfl
    rw [if_pos z0, v1, Option.bind_some, un1_app, if_pos z0, un1_app, if_pos z0, Option.bind_some]
    have lM : lp big (un4 (X11_lot_b88 (nI i) (nI a) (nI (1 - t)) (nI (cnB (HX σ 5 5))))) (μ, qL (vl t i (HX σ 5)), 1, 0) = some (μ, qL (vl t i (HX σ 5)), 1) := lp_r (f := 999999) rfl
    show SIM _ (bd ((lp big (un4 (X11_lot_b88 (nI i) (nI a) (nI (1 - t)) (nI (cnB (HX σ 5 5))))) (μ, qL (vl t i (HX σ 5)), 1, 0)).bind (un3 (fun s22 y23 y24 => bd (X11_fraction s22 y23 y24) (fun r25 s27 => some (r25, s27))))) (fun r7 s9 => some (r7, s9)))
    rw [lM, Option.bind_some]
    have T := tell_both h u2.1 (FrM.rf (σ := μ)) (S := sm t i (lv c 0 (HX σ 5))) (O := ff (cnB (HX σ 5 5)) 0) (by omega) hO2 hOp
    have e1 : sm t i (lv c 0 (HX σ 5)) = vl t i (HX σ 5) := Nat.add_zero _
    rw [e1] at T ⊢
    obtain ⟨v, τ, ν, y1, y2, y3⟩ := T
    have y2' : bd (X11_fraction μ (qL (vl t i (HX σ 5))) 1) (fun r25 s27 => some (r25, s27)) = some (v, ν) := y2
    refine ⟨v, τ, ν, y1, ?_, y3⟩
    show bd (bd (X11_fraction μ (qL (vl t i (HX σ 5))) 1) (fun r25 s27 => some (r25, s27))) (fun r7 s9 => some (r7, s9)) = _
    rw [y2', bd_some]
  · have nle0 : ¬ nI N ≤ 0 := lt_nI (a := 0) (b := N) (by omega) (by omega) (by omega)
    rw [if_neg nle0, Option.bind_some, un1_app, if_neg nle0, un1_app, if_neg nle0]
    obtain ⟨x, m1, f1, f2, -⟩ := fol_first hG (FrM.rf (σ := μ)) (N := N) (by omega) (by omega)
    have hx : x = 0 ∨ x = 1 := by
      rcases f2 with ⟨-, q, -⟩ | ⟨_, _, _, -, q, -⟩
      · exact Or.inl q
      · exact Or.inr q
    have e2 : (if x = 0 then some (m1, (0 : Int32)) else some (m1, (1 : Int32))) = some (m1, x) := by
      rcases hx with rfl | rfl <;> rfl
    obtain ⟨m2, z1, z2⟩ := sum_M hG ht hi hles (by omega) hN (lv c N (HX σ 5)) big m1 x 0 0 f2 (by show _ < 1000000; omega) (by omega) (by omega) (by omega) hallV
    rw [Nat.zero_add, Nat.zero_add, hcnt] at z1
    rw [f1, bd_some, e2, Option.bind_some]
    show SIM _ (bd ((lp big (un4 (X11_lot_b88 (nI i) (nI a) (nI (1 - t)) (nI (cnB (HX σ 5 5))))) (m1, qL 0, qL 0, x)).bind (un3 (fun s22 y23 y24 => bd (X11_fraction s22 y23 y24) (fun r25 s27 => some (r25, s27))))) (fun r7 s9 => some (r7, s9)))
    rw [z1, Option.bind_some]
    obtain ⟨v, τ, ν, y1, y2, y3⟩ := tell_both h u2.1 z2 (S := sm t i (lv c N (HX σ 5))) (O := ff (cnB (HX σ 5 5)) N) (by omega) hO2 hOp
    refine ⟨v, τ, ν, y1, ?_, y3⟩
    show bd (bd (X11_fraction m2 (qL (sm t i (lv c N (HX σ 5)))) (qL (ff (cnB (HX σ 5 5)) N))) (fun r25 s27 => some (r25, s27))) (fun r7 s9 => some (r7, s9)) = _
    rw [y2, bd_some]
theorem bd_same {o : Option (Int32 × mS)} : bd o (fun r s => some (r, s)) = o := by
  cases o with
  | none => rfl
  | some p => rfl
theorem tell_main {σ μ : mS} (h : RR σ μ) (a1 a2 : Int32) {t : Nat} (ht : t < 2) : SIM (X10_tellAhead σ a1 a2 (nI t)) (if (X11_isPlayer μ a1) = 0 then some ((-1), μ) else if (X11_in ((a2).toInt64) (0) (3)) = 0 then some ((-1), μ) else bd (X11_lot μ a1 a2 (nI (1 - t))) (fun r7 s9 => some (r7, s9))) := by
  obtain ⟨c, hG⟩ := h.2.2.1
  unfold X10_tellAhead
  by_cases hb : a1.toInt < 0 ∨ (c.1 : Int) ≤ a1.toInt
  · rw [if_pos (hG.plX.mpr hb), if_pos (hG.plM.mpr hb)]
    exact SIM.ret h rfl
  rw [if_neg (fun q => hb (hG.plX.mp q)), if_neg (fun q => hb (hG.plM.mp q))]
  obtain ⟨i, hi, hi4, rfl⟩ := plEx hG hb
  by_cases b1 : a2.toInt < 0 ∨ 3 < a2.toInt
  · rw [if_pos (in_zero.mpr b1 : X11_in a2.toInt64 0 3 = 0)]
    by_cases b2 : a2.toInt < 0
    · exact SIM.L (i_lt.mpr b2) (SIM.ret h rfl)
    · exact SIM.nL (fun q => b2 (i_lt.mp q)) (SIM.nL (nle (by show (3 : Int) < _; omega)) (SIM.ret h rfl))
  refine SIM.nL (fun q => b1 (Or.inl (i_lt.mp q))) (SIM.L (ile (by show _ ≤ (3 : Int); omega)) (SIM.nR (fun q => b1 (in_zero.mp q)) ?_))
  obtain ⟨a, ha, rfl⟩ := i_ex (a := a2) (m := 4) (by omega) (by omega)
  exact lot_main h hG ht hi (by omega)
theorem sim_odds {σ μ : mS} (h : RR σ μ) (a1 a2 : Int32) : SIM (X10_odds σ a1 a2) (X11_odds μ a1 a2) := by
  unfold X10_odds X11_odds
  rw [bd_same]
  exact tell_main h a1 a2 (t := 1) (by omega)
theorem sim_mid {σ μ : mS} (h : RR σ μ) (a1 a2 : Int32) : SIM (X10_mid σ a1 a2) (X11_mid μ a1 a2) := by
  unfold X10_mid X11_mid
  rw [bd_same]
  exact tell_main h a1 a2 (t := 0) (by omega)
