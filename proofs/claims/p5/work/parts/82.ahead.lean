/-! the class, numbers ahead -/
theorem nf_y {b : Int32} {d x : Nat} (q : bt b x = true) : nf b (d + 1) x = x :: nf b d (x + 1) := if_pos q
theorem nf_n {b : Int32} {d x : Nat} (q : ¬ bt b x = true) : nf b (d + 1) x = nf b d (x + 1) := if_neg q
def EqW (c : cT) (who : Int32) (a b : hT) : Prop := (∀ j, j < c.1 → bt who j = true → a j = b j ∧ bt (a 4) j = bt (b 4) j) ∧ a 5 = b 5 ∧ a 6 = b 6 ∧ a 7 = b 7
theorem EqW.rf {c : cT} {who : Int32} {a : hT} : EqW c who a a := ⟨fun _ _ _ => ⟨rfl, rfl⟩, rfl, rfl, rfl⟩
theorem wnb_ne {c : cT} {h : hT} {n : Int32} {q j : Nat} (hq : q < 4) (hj : j < 4) (hne : q ≠ j) : bt (wnb c h n q) j = false := by
  unfold wnb
  split
  · rw [shl_bt (by omega) (by omega)]
    exact decide_eq_false (fun e => hne e.symm)
  · exact b_0 j
theorem wns_bt {c : cT} {who : Int32} {a b : hT} {n : Int32} {j : Nat} (hj : j < 4) (hw : bt who j = true) (hn : nmk c a n j = nmk c b n j) : ∀ k, k ≤ 4 → bt (wnsW c who a n k) j = bt (wns c b n k) j
  | 0, _ => rfl
  | k + 1, hk => by
    show bt (wnsW c who a n k ||| (if bt who k = true then wnb c a n k else 0)) j = bt (wns c b n k ||| wnb c b n k) j
    rw [b_or, b_or, wns_bt hj hw hn k (by omega)]
    congr 1
    by_cases e : k = j
    · subst e
      rw [if_pos hw]
      unfold wnb
      rw [hn]
    · rw [wnb_ne (by omega) hj e]
      split
      · exact wnb_ne (by omega) hj e
      · exact b_0 j
theorem EqW.ring {c : cT} {who : Int32} {a b : hT} (h : EqW c who a b) (hP : c.1 ≤ 4) (n : Int32) : EqW c who (ringW c who a n) (ringH c b n) := by
  obtain ⟨h1, h5, h6, h7⟩ := h
  have nm : ∀ j, j < c.1 → bt who j = true → nmk c a n j = nmk c b n j := fun j hj hw => by
    unfold nmk
    rw [(h1 j hj hw).1, h7, h6]
  refine ⟨fun j hj hw => ⟨?_, ?_⟩, ?_, ?_, ?_⟩
  · unfold ringW ringH
    rw [if_pos (by omega), if_pos ⟨hj, hw⟩, if_pos hj, nm j hj hw]
  · have e1 : ringW c who a n 4 = a 4 ||| wnsW c who a n c.1 := rfl
    have e2 : ringH c b n 4 = b 4 ||| wns c b n c.1 := by unfold ringH; rw [if_neg (by omega), if_pos rfl]
    rw [e1, e2, b_or, b_or, (h1 j hj hw).2, wns_bt (by omega) hw (nm j hj hw) c.1 hP]
  · unfold ringW ringH
    rw [if_neg (by decide), if_neg (by decide), if_pos rfl, if_neg (by omega), if_neg (by decide), if_pos rfl, h5]
  · unfold ringW ringH
    rw [if_neg (by decide), if_neg (by decide), if_neg (by decide), if_pos rfl, if_neg (by omega), if_neg (by decide), if_neg (by decide), if_pos rfl, h6]
  · unfold ringW ringH
    rw [if_neg (by decide), if_neg (by decide), if_neg (by decide), if_neg (by decide), if_pos rfl, if_neg (by omega), if_neg (by decide), if_neg (by decide), if_neg (by decide), if_pos rfl]
theorem wnsW_lt (c : cT) (who : Int32) (h : hT) (num : Int32) : ∀ q, q ≤ 4 → ∃ m, m < 16 ∧ wnsW c who h num q = nI m
  | 0, _ => ⟨0, by decide, rfl⟩
  | q + 1, hq => by
    refine or_lt16 (wnsW_lt c who h num q (by omega)) ?_
    unfold wnb
    split
    · split
      · rcases (show q = 0 ∨ q = 1 ∨ q = 2 ∨ q = 3 by omega) with rfl | rfl | rfl | rfl
        · exact ⟨1, by decide, by decide⟩
        · exact ⟨2, by decide, by decide⟩
        · exact ⟨4, by decide, by decide⟩
        · exact ⟨8, by decide, by decide⟩
      · exact ⟨0, by decide, rfl⟩
    · exact ⟨0, by decide, rfl⟩
theorem HV_rW {h : hT} (hV : HV h) {c : cT} (hP : c.1 ≤ 4) (who num : Int32) : HV (ringW c who h num) := by
  refine ⟨fun j hj => ?_, or_lt16 hV.2.1 (wnsW_lt c who h num c.1 hP), ?_⟩
  · unfold ringW
    rw [if_pos hj]
    by_cases q : j < c.1 ∧ bt who j = true
    · rw [if_pos q]
      exact nmk_lt (hV.m hP) num q.1
    · rw [if_neg q]
      exact hV.1 j hj
  · have e := (hV.ring hP num).2.2
    unfold ringH at e
    rw [if_neg (by omega), if_neg (by decide), if_pos rfl] at e
    exact e
theorem stepW {σ s : mS} {c : cT} {e n : Nat} {who : Int32} (he : e < 4) (hX : FrX σ s) (hC : CF σ c) (hV : HV (HX s e)) (hn : n < 31) : ∃ v s', X10_stepAhead s (nI e) (nI n) who = some (v, s') ∧ HX s' (e + 1) = ringW c who (HX s e) (nI n) ∧ FrX σ s' ∧ (∀ j, j < 6 → j ≠ e + 1 → HX s' j = HX s j) ∧ s'.1 192 = upd (s.1 192) e (nI n) ∧ s'.1 0 = s.1 0 := by
  have hCs := hX.cf hC
  obtain ⟨s', g1, g2, g3, g4, g5⟩ := step_eq s (c := c) (who := who) he hCs (hV.m hC.2.1) hn
  refine ⟨_, s', g1, g2, ⟨fun q q1 q2 q3 q4 q5 => ?_, fun q q1 => ?_, g5.trans hX.2.2⟩, fun j hj6 hj => HX_of (g3 _ (by omega) (by omega) (by omega)) (g3 _ (by omega) (by omega) (by omega)), g4, g3 0 (by omega) (by omega) (by omega)⟩
  · rw [g3 q q3 (by omega) (by omega)]
    exact hX.1 q q1 q2 q3 q4 q5
  · rw [g3 0 (by omega) (by omega) (by omega)]
    exact hX.2.1 q q1
def wf (i : Nat) (l : List Nat × hT) : Bool := bt (l.2 4) i
theorem won_eq {s : mS} {e i : Nat} (hi : i < 4) : X2_hasWon s e (nI i) = if bt (HX s e 4) i = true then 1 else 0 := by
  unfold X2_hasWon
  rw [bit_eq _ (by omega)]
  show (if (if bt (s.1 (144 + e) 2) i = true then (1 : Int32) else 0) = 1 then (1 : Int32) else 0) = if bt (s.1 (144 + e) 2) i = true then 1 else 0
  by_cases q : bt (s.1 (144 + e) 2) i = true
  · rw [if_pos q, if_pos rfl]
  · rw [if_neg q, if_neg (by decide)]
theorem holdsX {s : mS} {e n : Nat} (hn : n < 32) : X2_holds s e (nI n) = if bt (HX s e 5) n = true then 1 else 0 := holds_eq hn
/-- what the class has done to its own rows ahead -/
def AX (σ : mS) (s s' : mS) (e : Nat) : Prop := FrX σ s' ∧ (∀ j, j ≤ e → HX s' j = HX s j) ∧ (∀ j, j < e → s'.1 192 j = s.1 192 j) ∧ s'.1 0 = s.1 0
theorem AX.tr {σ s s' s'' : mS} {e e' : Nat} (h : AX σ s s' e) (h' : AX σ s' s'' e') (he : e ≤ e') : AX σ s s'' e := ⟨h'.1, fun j hj => by rw [h'.2.1 j (by omega), h.2.1 j hj], fun j hj => by rw [h'.2.2.1 j (by omega), h.2.2.1 j hj], by rw [h'.2.2.2, h.2.2.2]⟩
theorem wins_X {σ μ : mS} {c : cT} (hG : RG σ μ c) {i : Nat} (hi : i < c.1) {N : Nat} (hN : N ≤ 4) : ∀ r f s e b, e + r = N → r < f → FrX σ s → HV (HX s e) → EqW c ((1 : Int32) <<< (nI i &&& 31)) (HX s e) b → ∃ v s', X10_winsAhead f s (nI i) (nI e) (nI N) = some (v, s') ∧ AX σ s s' e ∧ ((v = 0 ∧ (lv c r b).find? (wf i) = none) ∨ (∃ p h, v = 1 ∧ (lv c r b).find? (wf i) = some (p, h) ∧ ∀ j, j < r → s'.1 192 (e + j) = nI (p.getD j 0))) := by
  have hP4 := hG.P4
  have hwho : bt ((1 : Int32) <<< (nI i &&& 31)) i = true := by rw [shl_bt (by omega) (by omega)]; exact decide_eq_true rfl
  intro r
  induction r with
  | zero =>
    intro f s e b he hf hF hV hE
    obtain ⟨f, rfl⟩ : ∃ g, f = g + 1 := ⟨f - 1, by omega⟩
    have en : e = N := by omega
    subst en
    have hw : bt (HX s e 4) i = bt (b 4) i := (hE.1 i hi hwho).2
    have e1 : X10_winsAhead (f + 1) s (nI i) (nI e) (nI e) = some (if bt (b 4) i = true then 1 else 0, s) := by
      show X10_winsAhead_F (X10_winsAhead f) s (nI i) (nI e) (nI e) = _
      unfold X10_winsAhead_F
      rw [if_pos (vinI (by omega) (by omega)), if_pos le_nI, nI_nat (by omega), won_eq (by omega), hw]
    have e2 : (lv c 0 b).find? (wf i) = if bt (b 4) i = true then some ([], b) else none := by
      show (match wf i ([], b) with | true => some ([], b) | false => none) = _
      have q' : wf i ([], b) = bt (b 4) i := rfl
      rw [q']
      cases bt (b 4) i <;> rfl
    rw [e1, e2]
    by_cases q : bt (b 4) i = true
    · rw [if_pos q, if_pos q]
      exact ⟨1, s, rfl, ⟨hF, fun _ _ => rfl, fun _ _ => rfl, rfl⟩, Or.inr ⟨[], b, rfl, rfl, fun j hj => absurd hj (Nat.not_lt_zero _)⟩⟩
    · rw [if_neg q, if_neg q]
      exact ⟨0, s, rfl, ⟨hF, fun _ _ => rfl, fun _ _ => rfl, rfl⟩, Or.inl ⟨rfl, rfl⟩⟩
  | succ r ih =>
    intro f s e b he hf hF hV hE
    obtain ⟨f, rfl⟩ : ∃ g, f = g + 1 := ⟨f - 1, by omega⟩
    have loop : ∀ d g x s1, x + d = 13 → 1 ≤ x → d < g → AX σ s s1 e → ∃ res, lp g (un2 (X10_winsAhead_b28 (X10_winsAhead f) (nI i) (nI e) (nI N))) (s1, nI x) = some res ∧ ((∃ s', res = .inl s' ∧ AX σ s s' e ∧ ((nf (b 5) d x).flatMap (fun n => (lv c r (ringH c b (nI n))).map (fun l => (n :: l.1, l.2)))).find? (wf i) = none) ∨ (∃ s' p h, res = .inr (1, s') ∧ AX σ s s' e ∧ ((nf (b 5) d x).flatMap (fun n => (lv c r (ringH c b (nI n))).map (fun l => (n :: l.1, l.2)))).find? (wf i) = some (p, h) ∧ ∀ j, j < r + 1 → s'.1 192 (e + j) = nI (p.getD j 0))) := by
      intro d
      induction d with
      | zero =>
        intro g x s1 hx x1 hg hA
        obtain ⟨g, rfl⟩ : ∃ q, g = q + 1 := ⟨g - 1, by omega⟩
        have e13 : x = 13 := by omega
        subst e13
        exact ⟨_, lp_r rfl, Or.inl ⟨s1, rfl, hA, rfl⟩⟩
      | succ d ihd =>
        intro g x s1 hx x1 hg hA
        obtain ⟨g, rfl⟩ : ∃ q, g = q + 1 := ⟨g - 1, by omega⟩
        have bag : HX s1 e 5 = b 5 := by rw [hA.2.1 e (Nat.le_refl _)]; exact hE.2.1
        have l12 : ¬ (12 : Int32) < nI x := fun q => by have := i_lt.mp q; rw [nI_ti (by omega)] at this; have : (12 : Int) < x := this; omega
        by_cases q : bt (b 5) x = true
        · have en : nf (b 5) (d + 1) x = x :: nf (b 5) d (x + 1) := nf_y q
          have hVs : HV (HX s1 e) := by rw [hA.2.1 e (Nat.le_refl _)]; exact hV
          obtain ⟨v, s2, t1, t2, t3, t4, t5, t6⟩ := stepW (who := (1 : Int32) <<< (nI i &&& 31)) (n := x) (show e < 4 by omega) hA.1 hG.2.2.2.1 hVs (by omega)
          have A2 : AX σ s1 s2 e := ⟨t3, fun j hj => t4 j (by omega) (by omega), fun j hj => by rw [t5, upd_ne (by omega)], t6⟩
          have E2 : EqW c ((1 : Int32) <<< (nI i &&& 31)) (HX s2 (e + 1)) (ringH c b (nI x)) := by
            rw [t2, hA.2.1 e (Nat.le_refl _)]
            exact hE.ring hP4 _
          obtain ⟨w, s3, u1, u2, u3⟩ := ih f s2 (e + 1) (ringH c b (nI x)) (by omega) (by omega) t3 (by rw [t2]; exact HV_rW hVs hP4 _ _) E2
          have A3 : AX σ s s3 e := hA.tr (A2.tr u2 (by omega)) (Nat.le_refl _)
          have tr3 : s3.1 192 e = nI x := by rw [u2.2.2.1 e (by omega), t5, upd_at]
          have st : X10_winsAhead_b28 (X10_winsAhead f) (nI i) (nI e) (nI N) s1 (nI x) = if w = 0 then some (.inl (s3, nI (x + 1))) else some (.inr (.inr (1, s3))) := by
            unfold X10_winsAhead_b28
            rw [if_neg l12, nI_nat (by omega), holdsX (by omega), bag, if_pos q, if_neg (by decide), t1, bd_some, nI_s e (by omega), u1, bd_some, nI_s x (by omega)]
          rw [en, List.flatMap_cons, List.find?_append, List.find?_map]
          have hfn : (wf i ∘ fun l : List Nat × hT => (x :: l.1, l.2)) = wf i := rfl
          rw [hfn]
          rcases u3 with ⟨rfl, u3⟩ | ⟨p, h, rfl, u3, u4⟩
          · rw [if_pos rfl] at st
            rw [u3]
            obtain ⟨res, z1, z2⟩ := ihd g (x + 1) s3 (by omega) (by omega) (by omega) A3
            exact ⟨res, (lp_l st).trans z1, z2⟩
          · rw [if_neg (by decide)] at st
            rw [u3]
            refine ⟨_, lp_r st, Or.inr ⟨s3, x :: p, h, rfl, A3, rfl, fun j hj => ?_⟩⟩
            cases j with
            | zero => exact tr3
            | succ j =>
              have := u4 j (by omega)
              rw [show e + 1 + j = e + (j + 1) by omega] at this
              exact this
        · have en : nf (b 5) (d + 1) x = nf (b 5) d (x + 1) := nf_n q
          have st : X10_winsAhead_b28 (X10_winsAhead f) (nI i) (nI e) (nI N) s1 (nI x) = some (.inl (s1, nI (x + 1))) := by
            unfold X10_winsAhead_b28
            rw [if_neg l12, nI_nat (by omega), holdsX (by omega), bag, if_neg q, if_pos rfl, nI_s x (by omega)]
          rw [en]
          obtain ⟨res, z1, z2⟩ := ihd g (x + 1) s1 (by omega) (by omega) (by omega) hA
          exact ⟨res, (lp_l st).trans z1, z2⟩
    obtain ⟨res, z1, z2⟩ := loop 12 big 1 s rfl (Nat.le_refl _) (by show 12 < 1000000; omega) ⟨hF, fun _ _ => rfl, fun _ _ => rfl, rfl⟩
    have z1' : lp big (un2 (X10_winsAhead_b28 (X10_winsAhead f) (nI i) (nI e) (nI N))) (s, 1) = some res := z1
    have hX : X10_winsAhead (f + 1) s (nI i) (nI e) (nI N) = sm1 (fun s9 => some (0, s9)) res := by
      show X10_winsAhead_F (X10_winsAhead f) s (nI i) (nI e) (nI N) = _
      unfold X10_winsAhead_F
      rw [if_pos (vinI (by omega) (by omega)), if_neg (lt_nI (by omega) (by omega) (by omega)), if_pos (i_lt.mpr (by rw [nI_ti (by omega)]; show (e : Int) < 4; omega)), z1', Option.bind_some]
    rw [hX]
    rcases z2 with ⟨s', rfl, z3, z4⟩ | ⟨s', p, h, rfl, z3, z4, z5⟩
    · exact ⟨0, s', rfl, z3, Or.inl ⟨rfl, z4⟩⟩
    · exact ⟨1, s', rfl, z3, Or.inr ⟨p, h, rfl, z4, z5⟩⟩
