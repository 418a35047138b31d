def lawCmp : Nat → Bool := fun j => [36].contains j
set_option maxHeartbeats 8000000 in
set_option maxRecDepth 100000 in
theorem law_loop {K : Kx} {A : Nat → Prop} {n mc ms cs sl : Nat} (C : Cc K A code "CalledNumbersLaw" n mc ms) (hkn : kn K = 4) (hn : 900 ≤ n) (h8 : cs ≤ mc) (h9 : sl ≤ ms) {b L : Nat} {xs : Nat → Int32} {adX adM : Nat → Nat} (S : Sx K A b L xs) (hL : L ≤ 3072) (hJX : mJ LX adX) (hJM : mJ LM adM) {e : Nat → Bool} (hE : ∀ j, lawCmp j = true → e j = true) {Inv : Nat → mS → mS → Prop} (hst : ∀ (k : Nat) (σ μ : mS), 6 * k + 6 ≤ L → Inv k σ μ → ∀ j, j ≤ 37 → OpOK e (xs (6 * k + 1)) (xs (6 * k + 2)) (xs (6 * k + 3)) (xs (6 * k + 4)) (xs (6 * k + 5)) σ μ (Inv (k + 1)) j) (hend : ∀ (σ μ : mS) (lv : List (Nat × Value)), Wc K A (mwo LX adX (kcy K) σ ++ mwo LM adM (kcy K) μ) cs sl 1275 lv [.int 1]) : ∀ (f k : Nat) (σ μ : mS), L < 6 * k + 6 * f → 6 * k ≤ L → Inv k σ μ → Wc K A (mwo LX adX (kcy K) σ ++ mwo LM adM (kcy K) μ) cs sl 18 [(3, .int (Int32.ofNat (6 * k))), (2, .ref (adM 0)), (1, .ref (adX 0)), (0, .ref b)] [] := by
  intro f
  induction f with
  | zero => exact fun k σ μ h1 h2 _ => absurd h2 (by omega)
  | succ f ih =>
    intro k σ μ h1 h2 hI
    have hki : (Int32.ofNat (6 * k)).toInt = ((6 * k : Nat) : Int) := i32_ofNat (by omega)
    generalize hie : Int32.ofNat (6 * k) = i at hki ⊢
    refine k_iload_n C 0 dL_law_18 rfl ?_
    refine k_aload_n C 3 dL_law_19 rfl ?_
    refine k_slen C S dL_law_20 ?_
    refine k_bipush (v := 6) C dL_law_21 rfl ?_
    refine k_isub C dL_law_23 ?_
    refine k_icmpgt C 1274 dL_law_24 (by decide) (fun c => ?_) (fun c => ?_)
    · refine k_iconst (v := 1) C dL_law_1274 rfl ?_
      exact hend σ μ _
    have hk6 : 6 * k + 6 ≤ L := by
      rw [← hie, lim_iff hL (by omega)] at c
      omega
    have h0 : Ix i L (6 * k) := Ix_of hki (by omega) hL
    have h1 : Ix (i + 1) L (6 * k + 1) := Ix_of (i32_add hki (b := 1) (by decide) (by omega)) (by omega) hL
    have h2 : Ix (i + 2) L (6 * k + 2) := Ix_of (i32_add hki (b := 2) (by decide) (by omega)) (by omega) hL
    have h3 : Ix (i + 3) L (6 * k + 3) := Ix_of (i32_add hki (b := 3) (by decide) (by omega)) (by omega) hL
    have h4 : Ix (i + 4) L (6 * k + 4) := Ix_of (i32_add hki (b := 4) (by decide) (by omega)) (by omega) hL
    have h5 : Ix (i + 5) L (6 * k + 5) := Ix_of (i32_add hki (b := 5) (by decide) (by omega)) (by omega) hL
    have go : ∀ τ ν : mS, Inv (k + 1) τ ν → Wc K A (mwo LX adX (kcy K) τ ++ mwo LM adM (kcy K) ν) cs sl 1268 [(3, .int i), (2, .ref (adM 0)), (1, .ref (adX 0)), (0, .ref b)] [] := by
      intro τ ν hz
      have hi6 : i + Int32.ofInt 6 = Int32.ofNat (6 * (k + 1)) := by
        apply Int32.toInt_inj.mp
        rw [i32_add hki (b := 6) (by decide) (by omega), i32_ofNat (by omega)]
        rfl
      refine k_iinc (v := Int32.ofNat (6 * (k + 1))) (lv' := [(3, .int (Int32.ofNat (6 * (k + 1)))), (2, .ref (adM 0)), (1, .ref (adX 0)), (0, .ref b)]) C 0 dL_law_1268 rfl hi6 (by rw [hkn]; decide) rfl ?_
      refine k_goto C 18 dL_law_1271 (by decide) ?_
      exact ih (k + 1) τ ν (by omega) (by omega) hz
    have hop := hst k σ μ hk6 hI
    refine k_aload_n C 3 dL_law_27 rfl ?_
    refine k_iload_n C 0 dL_law_28 rfl ?_
    refine k_sld C S h0 dL_law_29 ?_
    refine k_bipush (v := 63) C dL_law_30 rfl ?_
    refine k_iand C dL_law_32 ?_
    generalize xs (6 * k) &&& 63 = z
    by_cases c0 : z = 0
    · refine k_tableIn C 196 dL_law_33 (by rw [c0]; decide) (by rw [c0]; decide) (by rw [c0]; rfl) (by decide) ?_
      obtain ⟨v, τ, w, ν, hx, hm, he, hz⟩ := hop 0 (by decide)
      exact law_0 C hn h8 h9 S h1 h2 h3 h4 h5 hJX hJM hx hm (go _ _ hz)
    by_cases c1 : z = 1
    · refine k_tableIn C 229 dL_law_33 (by rw [c1]; decide) (by rw [c1]; decide) (by rw [c1]; rfl) (by decide) ?_
      obtain ⟨v, τ, w, ν, hx, hm, he, hz⟩ := hop 1 (by decide)
      exact law_1 C hn h8 h9 S h1 h2 h3 h4 h5 hJX hJM hx hm (go _ _ hz)
    by_cases c2 : z = 2
    · refine k_tableIn C 272 dL_law_33 (by rw [c2]; decide) (by rw [c2]; decide) (by rw [c2]; rfl) (by decide) ?_
      obtain ⟨v, τ, w, ν, hx, hm, he, hz⟩ := hop 2 (by decide)
      exact law_2 C hn h8 h9 S h1 h2 h3 h4 h5 hJX hJM hx hm (go _ _ hz)
    by_cases c3 : z = 3
    · refine k_tableIn C 305 dL_law_33 (by rw [c3]; decide) (by rw [c3]; decide) (by rw [c3]; rfl) (by decide) ?_
      obtain ⟨v, τ, w, ν, hx, hm, he, hz⟩ := hop 3 (by decide)
      exact law_3 C hn h8 h9 S h1 h2 h3 h4 h5 hJX hJM hx hm (go _ _ hz)
    by_cases c4 : z = 4
    · refine k_tableIn C 328 dL_law_33 (by rw [c4]; decide) (by rw [c4]; decide) (by rw [c4]; rfl) (by decide) ?_
      obtain ⟨v, τ, w, ν, hx, hm, he, hz⟩ := hop 4 (by decide)
      exact law_4 C hn h8 h9 S h1 h2 h3 h4 h5 hJX hJM hx hm (go _ _ hz)
    by_cases c5 : z = 5
    · refine k_tableIn C 391 dL_law_33 (by rw [c5]; decide) (by rw [c5]; decide) (by rw [c5]; rfl) (by decide) ?_
      obtain ⟨v, τ, w, ν, hx, hm, he, hz⟩ := hop 5 (by decide)
      exact law_5 C hn h8 h9 S h1 h2 h3 h4 h5 hJX hJM hx hm (go _ _ hz)
    by_cases c6 : z = 6
    · refine k_tableIn C 414 dL_law_33 (by rw [c6]; decide) (by rw [c6]; decide) (by rw [c6]; rfl) (by decide) ?_
      obtain ⟨v, τ, w, ν, hx, hm, he, hz⟩ := hop 6 (by decide)
      exact law_6 C hn h8 h9 S h1 h2 h3 h4 h5 hJX hJM hx hm (go _ _ hz)
    by_cases c7 : z = 7
    · refine k_tableIn C 447 dL_law_33 (by rw [c7]; decide) (by rw [c7]; decide) (by rw [c7]; rfl) (by decide) ?_
      obtain ⟨v, τ, w, ν, hx, hm, he, hz⟩ := hop 7 (by decide)
      exact law_7 C hn h8 h9 S h1 h2 h3 h4 h5 hJX hJM hx hm (go _ _ hz)
    by_cases c8 : z = 8
    · refine k_tableIn C 490 dL_law_33 (by rw [c8]; decide) (by rw [c8]; decide) (by rw [c8]; rfl) (by decide) ?_
      obtain ⟨v, τ, w, ν, hx, hm, he, hz⟩ := hop 8 (by decide)
      exact law_8 C hn h8 h9 S h1 h2 h3 h4 h5 hJX hJM hx hm (go _ _ hz)
    by_cases c9 : z = 9
    · refine k_tableIn C 513 dL_law_33 (by rw [c9]; decide) (by rw [c9]; decide) (by rw [c9]; rfl) (by decide) ?_
      obtain ⟨v, τ, w, ν, hx, hm, he, hz⟩ := hop 9 (by decide)
      exact law_9 C hn h8 h9 S h1 h2 h3 h4 h5 hJX hJM hx hm (go _ _ hz)
    by_cases c10 : z = 10
    · refine k_tableIn C 536 dL_law_33 (by rw [c10]; decide) (by rw [c10]; decide) (by rw [c10]; rfl) (by decide) ?_
      obtain ⟨v, τ, w, ν, hx, hm, he, hz⟩ := hop 10 (by decide)
      exact law_10 C hn h8 h9 S h1 h2 h3 h4 h5 hJX hJM hx hm (go _ _ hz)
    by_cases c11 : z = 11
    · refine k_tableIn C 569 dL_law_33 (by rw [c11]; decide) (by rw [c11]; decide) (by rw [c11]; rfl) (by decide) ?_
      obtain ⟨v, τ, w, ν, hx, hm, he, hz⟩ := hop 11 (by decide)
      exact law_11 C hn h8 h9 S h1 h2 h3 h4 h5 hJX hJM hx hm (go _ _ hz)
    by_cases c12 : z = 12
    · refine k_tableIn C 602 dL_law_33 (by rw [c12]; decide) (by rw [c12]; decide) (by rw [c12]; rfl) (by decide) ?_
      obtain ⟨v, τ, w, ν, hx, hm, he, hz⟩ := hop 12 (by decide)
      exact law_12 C hn h8 h9 S h1 h2 h3 h4 h5 hJX hJM hx hm (go _ _ hz)
    by_cases c13 : z = 13
    · refine k_tableIn C 635 dL_law_33 (by rw [c13]; decide) (by rw [c13]; decide) (by rw [c13]; rfl) (by decide) ?_
      obtain ⟨v, τ, w, ν, hx, hm, he, hz⟩ := hop 13 (by decide)
      exact law_13 C hn h8 h9 S h1 h2 h3 h4 h5 hJX hJM hx hm (go _ _ hz)
    by_cases c14 : z = 14
    · refine k_tableIn C 658 dL_law_33 (by rw [c14]; decide) (by rw [c14]; decide) (by rw [c14]; rfl) (by decide) ?_
      obtain ⟨v, τ, w, ν, hx, hm, he, hz⟩ := hop 14 (by decide)
      exact law_14 C hn h8 h9 S h1 h2 h3 h4 h5 hJX hJM hx hm (go _ _ hz)
    by_cases c15 : z = 15
    · refine k_tableIn C 691 dL_law_33 (by rw [c15]; decide) (by rw [c15]; decide) (by rw [c15]; rfl) (by decide) ?_
      obtain ⟨v, τ, w, ν, hx, hm, he, hz⟩ := hop 15 (by decide)
      exact law_15 C hn h8 h9 S h1 h2 h3 h4 h5 hJX hJM hx hm (go _ _ hz)
    by_cases c16 : z = 16
    · refine k_tableIn C 714 dL_law_33 (by rw [c16]; decide) (by rw [c16]; decide) (by rw [c16]; rfl) (by decide) ?_
      obtain ⟨v, τ, w, ν, hx, hm, he, hz⟩ := hop 16 (by decide)
      exact law_16 C hn h8 h9 S h1 h2 h3 h4 h5 hJX hJM hx hm (go _ _ hz)
    by_cases c17 : z = 17
    · refine k_tableIn C 737 dL_law_33 (by rw [c17]; decide) (by rw [c17]; decide) (by rw [c17]; rfl) (by decide) ?_
      obtain ⟨v, τ, w, ν, hx, hm, he, hz⟩ := hop 17 (by decide)
      exact law_17 C hn h8 h9 S h1 h2 h3 h4 h5 hJX hJM hx hm (go _ _ hz)
    by_cases c18 : z = 18
    · refine k_tableIn C 760 dL_law_33 (by rw [c18]; decide) (by rw [c18]; decide) (by rw [c18]; rfl) (by decide) ?_
      obtain ⟨v, w, hx, hm, he, hz⟩ := hop 18 (by decide)
      exact law_18 C hn h8 h9 S h1 h2 h3 h4 h5 hJX hJM hx hm (go _ _ hz)
    by_cases c19 : z = 19
    · refine k_tableIn C 813 dL_law_33 (by rw [c19]; decide) (by rw [c19]; decide) (by rw [c19]; rfl) (by decide) ?_
      obtain ⟨v, τ, w, ν, hx, hm, he, hz⟩ := hop 19 (by decide)
      exact law_19 C hn h8 h9 S h1 h2 h3 h4 h5 hJX hJM hx hm (go _ _ hz)
    by_cases c20 : z = 20
    · refine k_tableIn C 836 dL_law_33 (by rw [c20]; decide) (by rw [c20]; decide) (by rw [c20]; rfl) (by decide) ?_
      obtain ⟨v, τ, w, ν, hx, hm, he, hz⟩ := hop 20 (by decide)
      exact law_20 C hn h8 h9 S h1 h2 h3 h4 h5 hJX hJM hx hm (go _ _ hz)
    by_cases c21 : z = 21
    · refine k_tableIn C 849 dL_law_33 (by rw [c21]; decide) (by rw [c21]; decide) (by rw [c21]; rfl) (by decide) ?_
      obtain ⟨v, τ, w, ν, hx, hm, he, hz⟩ := hop 21 (by decide)
      exact law_21 C hn h8 h9 S h1 h2 h3 h4 h5 hJX hJM hx hm (go _ _ hz)
    by_cases c22 : z = 22
    · refine k_tableIn C 882 dL_law_33 (by rw [c22]; decide) (by rw [c22]; decide) (by rw [c22]; rfl) (by decide) ?_
      obtain ⟨v, τ, w, ν, hx, hm, he, hz⟩ := hop 22 (by decide)
      exact law_22 C hn h8 h9 S h1 h2 h3 h4 h5 hJX hJM hx hm (go _ _ hz)
    by_cases c23 : z = 23
    · refine k_tableIn C 915 dL_law_33 (by rw [c23]; decide) (by rw [c23]; decide) (by rw [c23]; rfl) (by decide) ?_
      obtain ⟨v, w, hx, hm, he, hz⟩ := hop 23 (by decide)
      exact law_23 C hn h8 h9 S h1 h2 h3 h4 h5 hJX hJM hx hm (go _ _ hz)
    by_cases c24 : z = 24
    · refine k_tableIn C 948 dL_law_33 (by rw [c24]; decide) (by rw [c24]; decide) (by rw [c24]; rfl) (by decide) ?_
      obtain ⟨v, τ, w, ν, hx, hm, he, hz⟩ := hop 24 (by decide)
      exact law_24 C hn h8 h9 S h1 h2 h3 h4 h5 hJX hJM hx hm (go _ _ hz)
    by_cases c25 : z = 25
    · refine k_tableIn C 981 dL_law_33 (by rw [c25]; decide) (by rw [c25]; decide) (by rw [c25]; rfl) (by decide) ?_
      obtain ⟨v, τ, w, ν, hx, hm, he, hz⟩ := hop 25 (by decide)
      exact law_25 C hn h8 h9 S h1 h2 h3 h4 h5 hJX hJM hx hm (go _ _ hz)
    by_cases c26 : z = 26
    · refine k_tableIn C 1014 dL_law_33 (by rw [c26]; decide) (by rw [c26]; decide) (by rw [c26]; rfl) (by decide) ?_
      obtain ⟨v, τ, w, ν, hx, hm, he, hz⟩ := hop 26 (by decide)
      exact law_26 C hn h8 h9 S h1 h2 h3 h4 h5 hJX hJM hx hm (go _ _ hz)
    by_cases c27 : z = 27
    · refine k_tableIn C 1057 dL_law_33 (by rw [c27]; decide) (by rw [c27]; decide) (by rw [c27]; rfl) (by decide) ?_
      obtain ⟨v, τ, w, ν, hx, hm, he, hz⟩ := hop 27 (by decide)
      exact law_27 C hn h8 h9 S h1 h2 h3 h4 h5 hJX hJM hx hm (go _ _ hz)
    by_cases c28 : z = 28
    · refine k_tableIn C 1090 dL_law_33 (by rw [c28]; decide) (by rw [c28]; decide) (by rw [c28]; rfl) (by decide) ?_
      obtain ⟨v, τ, w, ν, hx, hm, he, hz⟩ := hop 28 (by decide)
      exact law_28 C hn h8 h9 S h1 h2 h3 h4 h5 hJX hJM hx hm (go _ _ hz)
    by_cases c29 : z = 29
    · refine k_tableIn C 1123 dL_law_33 (by rw [c29]; decide) (by rw [c29]; decide) (by rw [c29]; rfl) (by decide) ?_
      obtain ⟨v, τ, w, ν, hx, hm, he, hz⟩ := hop 29 (by decide)
      exact law_29 C hn h8 h9 S h1 h2 h3 h4 h5 hJX hJM hx hm (go _ _ hz)
    by_cases c30 : z = 30
    · refine k_tableIn C 1156 dL_law_33 (by rw [c30]; decide) (by rw [c30]; decide) (by rw [c30]; rfl) (by decide) ?_
      obtain ⟨he, hz⟩ := hop 30 (by decide)
      exact law_30 C hn h8 h9 S h1 h2 h3 h4 h5 hJX hJM (go _ _ hz)
    by_cases c31 : z = 31
    · refine k_tableIn C 1169 dL_law_33 (by rw [c31]; decide) (by rw [c31]; decide) (by rw [c31]; rfl) (by decide) ?_
      obtain ⟨he, hz⟩ := hop 31 (by decide)
      exact law_31 C hn h8 h9 S h1 h2 h3 h4 h5 hJX hJM (go _ _ hz)
    by_cases c32 : z = 32
    · refine k_tableIn C 1182 dL_law_33 (by rw [c32]; decide) (by rw [c32]; decide) (by rw [c32]; rfl) (by decide) ?_
      obtain ⟨he, hz⟩ := hop 32 (by decide)
      exact law_32 C hn h8 h9 S h1 h2 h3 h4 h5 hJX hJM (go _ _ hz)
    by_cases c33 : z = 33
    · refine k_tableIn C 1195 dL_law_33 (by rw [c33]; decide) (by rw [c33]; decide) (by rw [c33]; rfl) (by decide) ?_
      obtain ⟨v, w, hx, hm, he, hz⟩ := hop 33 (by decide)
      exact law_33 C hn h8 h9 S h1 h2 h3 h4 h5 hJX hJM hx hm (go _ _ hz)
    by_cases c34 : z = 34
    · refine k_tableIn C 1218 dL_law_33 (by rw [c34]; decide) (by rw [c34]; decide) (by rw [c34]; rfl) (by decide) ?_
      obtain ⟨he, hz⟩ := hop 34 (by decide)
      exact law_34 C hn h8 h9 S h1 h2 h3 h4 h5 hJX hJM (go _ _ hz)
    by_cases c35 : z = 35
    · refine k_tableIn C 1231 dL_law_33 (by rw [c35]; decide) (by rw [c35]; decide) (by rw [c35]; rfl) (by decide) ?_
      obtain ⟨v, w, hx, hm, he, hz⟩ := hop 35 (by decide)
      exact law_35 C hn h8 h9 S h1 h2 h3 h4 h5 hJX hJM hx hm (go _ _ hz)
    by_cases c36 : z = 36
    · refine k_tableIn C 1254 dL_law_33 (by rw [c36]; decide) (by rw [c36]; decide) (by rw [c36]; rfl) (by decide) ?_
      obtain ⟨v, w, hx, hm, he, hz⟩ := hop 36 (by decide)
      exact law_36 C hn h8 h9 S h1 h2 h3 h4 h5 hJX hJM hx hm (he (hE 36 rfl)) (go _ _ hz)
    refine k_tableOut C 1268 dL_law_33 (sw_out (fun c g1 g2 => by
      have g3 : c = 0 ∨ c = 1 ∨ c = 2 ∨ c = 3 ∨ c = 4 ∨ c = 5 ∨ c = 6 ∨ c = 7 ∨ c = 8 ∨ c = 9 ∨ c = 10 ∨ c = 11 ∨ c = 12 ∨ c = 13 ∨ c = 14 ∨ c = 15 ∨ c = 16 ∨ c = 17 ∨ c = 18 ∨ c = 19 ∨ c = 20 ∨ c = 21 ∨ c = 22 ∨ c = 23 ∨ c = 24 ∨ c = 25 ∨ c = 26 ∨ c = 27 ∨ c = 28 ∨ c = 29 ∨ c = 30 ∨ c = 31 ∨ c = 32 ∨ c = 33 ∨ c = 34 ∨ c = 35 ∨ c = 36 := by omega
      rcases g3 with rfl | rfl | rfl | rfl | rfl | rfl | rfl | rfl | rfl | rfl | rfl | rfl | rfl | rfl | rfl | rfl | rfl | rfl | rfl | rfl | rfl | rfl | rfl | rfl | rfl | rfl | rfl | rfl | rfl | rfl | rfl | rfl | rfl | rfl | rfl | rfl | rfl
      · exact c0
      · exact c1
      · exact c2
      · exact c3
      · exact c4
      · exact c5
      · exact c6
      · exact c7
      · exact c8
      · exact c9
      · exact c10
      · exact c11
      · exact c12
      · exact c13
      · exact c14
      · exact c15
      · exact c16
      · exact c17
      · exact c18
      · exact c19
      · exact c20
      · exact c21
      · exact c22
      · exact c23
      · exact c24
      · exact c25
      · exact c26
      · exact c27
      · exact c28
      · exact c29
      · exact c30
      · exact c31
      · exact c32
      · exact c33
      · exact c34
      · exact c35
      · exact c36
      )) (by decide) ?_
    exact go _ _ (hop 37 (by decide))
set_option maxHeartbeats 8000000 in
set_option maxRecDepth 100000 in
theorem law_main {p : Program} {e : Env} {s : State} {m : MethodId} {below : List Frame} {meth : Method} {c : Code} (l : Launch) {b L : Nat} {xs : Nat → Int32} (hL : L ≤ 3072) (C0 : lw_At p s m meth c b L xs) {ev : Nat → Bool} (hE : ∀ j, lawCmp j = true → ev j = true) {Inv : Nat → mS → mS → Prop} (hI : Inv 0 mX0 mM0) (hst : ∀ (k : Nat) (σ μ : mS), 6 * k + 6 ≤ L → Inv k σ μ → ∀ j, j ≤ 37 → OpOK ev (xs (6 * k + 1)) (xs (6 * k + 2)) (xs (6 * k + 3)) (xs (6 * k + 4)) (xs (6 * k + 5)) σ μ (Inv (k + 1)) j) : W p l e room_1 s m #[Value.ref b] below meth c s.heap [] 0 0 (lw_Z below #[Value.ref b] s) (entryFrame m ([Value.ref b] : List Value).toArray 4) := by
  obtain ⟨hx, hb, hr, hml, hown, hts, hX, hbl, hlocks, hgv⟩ := id C0
  obtain ⟨D, cy, hK, hT, hO⟩ := law_env hts hgv
  have hl := lv_entry ([.ref b]) (n := 4) (Nat.le_of_ble_eq_true rfl)
  rw [lg_entry_eq]
  generalize (lg_sl ([.ref b]) ++ List.replicate (4 - (lg_sl ([.ref b])).length) Slot.unset).toArray = ls at hl ⊢
  have hl : lv_has ls 4 [(0, .ref b)] := hl
  obtain ⟨K, hKe⟩ : ∃ K : Kx, K = (p, l, e, room_1, s, m, #[Value.ref b], below, meth, c, 4, D, (fun _ => 0), cy, lw_Z below #[Value.ref b] s) := ⟨_, rfl⟩
  have C : Cc K (fun q : Nat => s.heap.size ≤ q) code "CalledNumbersLaw" 1600 600000 7302250 := by
    rw [hKe]
    exact ⟨hx, hb, hml, hown, fun w h => hts w (List.mem_filter.mp h).1, hK, fun _ h => h, hT, ⟨(by decide : 1600 ≤ 2048), Nat.le_refl 600000, Nat.le_refl 7302250, (by decide : 50 * 1600 ≤ 84000)⟩, hO⟩
  have S : Sx K (fun q : Nat => s.heap.size ≤ q) b L xs := by
    rw [hKe]
    exact ⟨hX, hbl, Nat.not_le.mpr hbl⟩
  have e5 : kn K = 4 := by rw [hKe]
  have ecy : kcy K = cy := by rw [hKe]
  subst ecy
  have hend : ∀ (ws : va_W) (lv : List (Nat × Value)), Wc K (fun q : Nat => s.heap.size ≤ q) ws 78 2845 1275 lv [.int 1] := by
    intro ws lv H locs ls hP hD hS hl
    rw [hKe] at hS ⊢
    exact va_forget (fun q hq => hS.2.2 q hq) (W.widen (Nat.le_of_ble_eq_true rfl) (Nat.le_of_ble_eq_true rfl) (lw_ret hx hb hr hlocks dL_law_1275))
  have key : Wc K (fun q : Nat => s.heap.size ≤ q) [] 0 0 0 [(0, .ref b)] [] := by
    refine k_new (ci := 10) (fs := [.null, .null, .null, .null, .null, .null, .null, .null, .null, .null, .null, .int 0, .null, .int 0, .long 0, .long 0, .int 0, .null]) (q := (RX10, TX10, 18)) C tyX10 tyX10_ok rfl inBX10 tw79 tw80 tw63 (fun j (hj : j < 18) => by rcases (show j = 0 ∨ j = 1 ∨ j = 2 ∨ j = 3 ∨ j = 4 ∨ j = 5 ∨ j = 6 ∨ j = 7 ∨ j = 8 ∨ j = 9 ∨ j = 10 ∨ j = 11 ∨ j = 12 ∨ j = 13 ∨ j = 14 ∨ j = 15 ∨ j = 16 ∨ j = 17 by omega) with rfl | rfl | rfl | rfl | rfl | rfl | rfl | rfl | rfl | rfl | rfl | rfl | rfl | rfl | rfl | rfl | rfl | rfl <;> rfl) (by decide) (by decide) dL_law_0 (fun q1 => ?_)
    show Wc K (fun q : Nat => s.heap.size ≤ q) [(q1, .inr (10, [.null, .null, .null, .null, .null, .null, .null, .null, .null, .null, .null, .int 0, .null, .int 0, .long 0, .long 0, .int 0, .null]))] 1 18 3 [(0, .ref b)] [.ref q1]
    refine k_dup C dL_law_3 rfl ?_
    refine k_callI (ar := 0) (wr := []) (rest := [.ref q1]) C [0] [] (k_X10_init) hk_X10_init rfl tw81 tw82 tw63 tw83 (by decide) (by decide) (by decide) (by decide) rfl rfl (by decide) (by decide) (by decide) rfl rfl (Nat.le_of_ble_eq_true rfl) dL_law_4 (fun w50 p49 => ?_)
    obtain ⟨q2, p49_0⟩ := p49
    obtain ⟨q3, p49_1⟩ := p49_0
    obtain ⟨q4, p49_2⟩ := p49_1
    obtain ⟨q5, p49_3⟩ := p49_2
    obtain ⟨q6, p49_4⟩ := p49_3
    obtain ⟨q7, p49_5⟩ := p49_4
    obtain ⟨q8, p49_6⟩ := p49_5
    obtain ⟨q9, p49_7⟩ := p49_6
    obtain ⟨q10, p49_8⟩ := p49_7
    obtain ⟨q11, p49_9⟩ := p49_8
    obtain ⟨q12, p49_10⟩ := p49_9
    obtain ⟨q13, p49_11⟩ := p49_10
    obtain ⟨q14, p49_12⟩ := p49_11
    obtain ⟨r15, p49_13⟩ := p49_12
    obtain ⟨r16, p49_14⟩ := p49_13
    obtain ⟨q17, p49_15⟩ := p49_14
    obtain ⟨q18, p49_16⟩ := p49_15
    obtain ⟨r19, p49_17⟩ := p49_16
    obtain ⟨q20, p49_18⟩ := p49_17
    obtain ⟨q21, p49_19⟩ := p49_18
    obtain ⟨q22, p49_20⟩ := p49_19
    obtain ⟨q23, p49_21⟩ := p49_20
    obtain ⟨q24, p49_22⟩ := p49_21
    obtain ⟨q25, p49_23⟩ := p49_22
    obtain ⟨q26, p49_24⟩ := p49_23
    obtain ⟨q27, p49_25⟩ := p49_24
    obtain ⟨q28, p49_26⟩ := p49_25
    obtain ⟨q29, p49_27⟩ := p49_26
    obtain ⟨r30, p49_28⟩ := p49_27
    obtain ⟨q31, p49_29⟩ := p49_28
    obtain ⟨q32, p49_30⟩ := p49_29
    obtain ⟨q33, p49_31⟩ := p49_30
    obtain ⟨q34, p49_32⟩ := p49_31
    obtain ⟨q35, p49_33⟩ := p49_32
    obtain ⟨q36, p49_34⟩ := p49_33
    obtain ⟨q37, p49_35⟩ := p49_34
    obtain ⟨q38, p49_36⟩ := p49_35
    obtain ⟨q39, p49_37⟩ := p49_36
    obtain ⟨q40, p49_38⟩ := p49_37
    obtain ⟨q41, p49_39⟩ := p49_38
    obtain ⟨q42, p49_40⟩ := p49_39
    obtain ⟨q43, p49_41⟩ := p49_40
    obtain ⟨q44, p49_42⟩ := p49_41
    obtain ⟨q45, p49_43⟩ := p49_42
    obtain ⟨q46, p49_44⟩ := p49_43
    obtain ⟨q47, p49_45⟩ := p49_44
    obtain ⟨q48, p49_46⟩ := p49_45
    subst p49_46
    show Wc K (fun q : Nat => s.heap.size ≤ q) [(q1, .inr (10, [.ref q2, .ref q3, .ref q4, .ref q5, .ref q6, .ref q7, .ref q8, .ref q9, .ref q10, .ref q11, .ref q12, .int 0, .ref q13, .int 0, .long 0, .long 1, .int 0, .ref q14])), (q2, .inl (kcy K 2, 6, .inr (.inr (.inr (.inr (fun i => if i < 6 then some (r15 i) else none)))))), ((r15 0), .inl (kcy K 0, 40, .inl (fun _ => 0))), ((r15 1), .inl (kcy K 0, 40, .inl (fun _ => 0))), ((r15 2), .inl (kcy K 0, 40, .inl (fun _ => 0))), ((r15 3), .inl (kcy K 0, 40, .inl (fun _ => 0))), ((r15 4), .inl (kcy K 0, 40, .inl (fun _ => 0))), ((r15 5), .inl (kcy K 0, 40, .inl (fun _ => 0))), (q4, .inl (kcy K 3, 4, .inr (.inr (.inr (.inr (fun i => if i < 4 then some (r16 i) else none)))))), ((r16 0), .inl (kcy K 1, 60, .inl (fun _ => 0))), ((r16 1), .inl (kcy K 1, 60, .inl (fun _ => 0))), ((r16 2), .inl (kcy K 1, 60, .inl (fun _ => 0))), ((r16 3), .inl (kcy K 1, 60, .inl (fun _ => 0))), (q6, .inr (6, [.ref q17, .ref q18, .int 0])), (q17, .inl (kcy K 0, 4, .inl (fun _ => 0))), (q18, .inl (kcy K 2, 4, .inr (.inr (.inr (.inr (fun i => if i < 4 then some (r19 i) else none)))))), ((r19 0), .inl (kcy K 0, 6, .inl (fun _ => 0))), ((r19 1), .inl (kcy K 0, 6, .inl (fun _ => 0))), ((r19 2), .inl (kcy K 0, 6, .inl (fun _ => 0))), ((r19 3), .inl (kcy K 0, 6, .inl (fun _ => 0))), (q7, .inr (7, [.ref q20, .ref q21, .ref q22, .ref q23, .int 0])), (q20, .inl (kcy K 6, 6, .inr (.inr (.inr (.inr (va_up (va_up (va_up (va_up (va_up (va_up (fun _ => none) (0 : Int32).toNatClampNeg (some q24)) (1 : Int32).toNatClampNeg (some q25)) (2 : Int32).toNatClampNeg (some q26)) (3 : Int32).toNatClampNeg (some q27)) (4 : Int32).toNatClampNeg (some q28)) (5 : Int32).toNatClampNeg (some q29))))))), (q24, .inr (5, [])), (q25, .inr (9, [])), (q26, .inr (0, [])), (q27, .inr (3, [])), (q28, .inr (4, [])), (q29, .inr (8, [])), (q21, .inl (kcy K 0, 4, .inl (fun _ => 0))), (q22, .inl (kcy K 2, 4, .inr (.inr (.inr (.inr (fun i => if i < 4 then some (r30 i) else none)))))), ((r30 0), .inl (kcy K 0, 6, .inl (fun _ => 0))), ((r30 1), .inl (kcy K 0, 6, .inl (fun _ => 0))), ((r30 2), .inl (kcy K 0, 6, .inl (fun _ => 0))), ((r30 3), .inl (kcy K 0, 6, .inl (fun _ => 0))), (q23, .inl (kcy K 0, 4, .inl (fun _ => 0))), (q8, .inr (2, [.ref q7, .ref q31, .int 0, .int 0, .int 0, .int 0])), (q31, .inl (kcy K 0, 4, .inl (fun _ => 0))), (q9, .inr (1, [.ref q32, .int 0])), (q32, .inl (kcy K 0, 40, .inl (fun _ => 0))), (q10, .inl (kcy K 4, 3, .inr (.inr (.inr (.inr (va_up (va_up (va_up (fun _ => none) (0 : Int32).toNatClampNeg (some q33)) (1 : Int32).toNatClampNeg (some q34)) (2 : Int32).toNatClampNeg (some q35))))))), (q11, .inl (kcy K 5, 5, .inr (.inr (.inr (.inr (va_up (va_up (va_up (va_up (va_up (fun _ => none) (0 : Int32).toNatClampNeg (some q36)) (1 : Int32).toNatClampNeg (some q37)) (2 : Int32).toNatClampNeg (some q38)) (3 : Int32).toNatClampNeg (some q39)) (4 : Int32).toNatClampNeg (some q40))))))), (q12, .inl (kcy K 0, 4, .inl (fun _ => 0))), (q13, .inl (kcy K 0, 7, .inl (fun _ => 0))), (q14, .inl (kcy K 0, 6, .inl (fun _ => 0))), (q3, .inl (kcy K 0, 6, .inl (mF6.1 0))), (q5, .inl (kcy K 0, 4, .inl (mF4.1 0))), (q33, .inr (1, [.ref q41, .int (-1)])), (q41, .inl (kcy K 0, 40, .inl (fun _ => 0))), (q34, .inr (1, [.ref q42, .int (-1)])), (q42, .inl (kcy K 0, 40, .inl (fun _ => 0))), (q35, .inr (1, [.ref q43, .int (-1)])), (q43, .inl (kcy K 0, 40, .inl (fun _ => 0))), (q36, .inr (2, [.ref q7, .ref q44, .int 0, .int 0, .int 0, .int 0])), (q44, .inl (kcy K 0, 4, .inl (fun _ => 0))), (q37, .inr (2, [.ref q7, .ref q45, .int 0, .int 0, .int 0, .int 0])), (q45, .inl (kcy K 0, 4, .inl (fun _ => 0))), (q38, .inr (2, [.ref q7, .ref q46, .int 0, .int 0, .int 0, .int 0])), (q46, .inl (kcy K 0, 4, .inl (fun _ => 0))), (q39, .inr (2, [.ref q7, .ref q47, .int 0, .int 0, .int 0, .int 0])), (q47, .inl (kcy K 0, 4, .inl (fun _ => 0))), (q40, .inr (2, [.ref q7, .ref q48, .int 0, .int 0, .int 0, .int 0])), (q48, .inl (kcy K 0, 4, .inl (fun _ => 0)))] 62 853 7 [(0, .ref b)] [.ref q1]
    refine k_astore_n (lv' := [(1, .ref q1), (0, .ref b)]) C dL_law_7 (by rw [e5]; decide) rfl ?_
    refine k_new (ci := 11) (fs := [.null, .null, .null, .null, .null, .int 0, .null, .null, .int 0, .null, .null, .null, .int 0, .null, .int 0, .long 0, .long 0, .int 0, .null, .null, .null, .null]) (q := (RX11, TX11, 22)) C tyX11 tyX11_ok rfl inBX11 tw757 tw758 tw75 (fun j (hj : j < 22) => by rcases (show j = 0 ∨ j = 1 ∨ j = 2 ∨ j = 3 ∨ j = 4 ∨ j = 5 ∨ j = 6 ∨ j = 7 ∨ j = 8 ∨ j = 9 ∨ j = 10 ∨ j = 11 ∨ j = 12 ∨ j = 13 ∨ j = 14 ∨ j = 15 ∨ j = 16 ∨ j = 17 ∨ j = 18 ∨ j = 19 ∨ j = 20 ∨ j = 21 by omega) with rfl | rfl | rfl | rfl | rfl | rfl | rfl | rfl | rfl | rfl | rfl | rfl | rfl | rfl | rfl | rfl | rfl | rfl | rfl | rfl | rfl | rfl <;> rfl) (by decide) (by decide) dL_law_8 (fun q51 => ?_)
    show Wc K (fun q : Nat => s.heap.size ≤ q) [(q1, .inr (10, [.ref q2, .ref q3, .ref q4, .ref q5, .ref q6, .ref q7, .ref q8, .ref q9, .ref q10, .ref q11, .ref q12, .int 0, .ref q13, .int 0, .long 0, .long 1, .int 0, .ref q14])), (q2, .inl (kcy K 2, 6, .inr (.inr (.inr (.inr (fun i => if i < 6 then some (r15 i) else none)))))), ((r15 0), .inl (kcy K 0, 40, .inl (fun _ => 0))), ((r15 1), .inl (kcy K 0, 40, .inl (fun _ => 0))), ((r15 2), .inl (kcy K 0, 40, .inl (fun _ => 0))), ((r15 3), .inl (kcy K 0, 40, .inl (fun _ => 0))), ((r15 4), .inl (kcy K 0, 40, .inl (fun _ => 0))), ((r15 5), .inl (kcy K 0, 40, .inl (fun _ => 0))), (q4, .inl (kcy K 3, 4, .inr (.inr (.inr (.inr (fun i => if i < 4 then some (r16 i) else none)))))), ((r16 0), .inl (kcy K 1, 60, .inl (fun _ => 0))), ((r16 1), .inl (kcy K 1, 60, .inl (fun _ => 0))), ((r16 2), .inl (kcy K 1, 60, .inl (fun _ => 0))), ((r16 3), .inl (kcy K 1, 60, .inl (fun _ => 0))), (q6, .inr (6, [.ref q17, .ref q18, .int 0])), (q17, .inl (kcy K 0, 4, .inl (fun _ => 0))), (q18, .inl (kcy K 2, 4, .inr (.inr (.inr (.inr (fun i => if i < 4 then some (r19 i) else none)))))), ((r19 0), .inl (kcy K 0, 6, .inl (fun _ => 0))), ((r19 1), .inl (kcy K 0, 6, .inl (fun _ => 0))), ((r19 2), .inl (kcy K 0, 6, .inl (fun _ => 0))), ((r19 3), .inl (kcy K 0, 6, .inl (fun _ => 0))), (q7, .inr (7, [.ref q20, .ref q21, .ref q22, .ref q23, .int 0])), (q20, .inl (kcy K 6, 6, .inr (.inr (.inr (.inr (va_up (va_up (va_up (va_up (va_up (va_up (fun _ => none) (0 : Int32).toNatClampNeg (some q24)) (1 : Int32).toNatClampNeg (some q25)) (2 : Int32).toNatClampNeg (some q26)) (3 : Int32).toNatClampNeg (some q27)) (4 : Int32).toNatClampNeg (some q28)) (5 : Int32).toNatClampNeg (some q29))))))), (q24, .inr (5, [])), (q25, .inr (9, [])), (q26, .inr (0, [])), (q27, .inr (3, [])), (q28, .inr (4, [])), (q29, .inr (8, [])), (q21, .inl (kcy K 0, 4, .inl (fun _ => 0))), (q22, .inl (kcy K 2, 4, .inr (.inr (.inr (.inr (fun i => if i < 4 then some (r30 i) else none)))))), ((r30 0), .inl (kcy K 0, 6, .inl (fun _ => 0))), ((r30 1), .inl (kcy K 0, 6, .inl (fun _ => 0))), ((r30 2), .inl (kcy K 0, 6, .inl (fun _ => 0))), ((r30 3), .inl (kcy K 0, 6, .inl (fun _ => 0))), (q23, .inl (kcy K 0, 4, .inl (fun _ => 0))), (q8, .inr (2, [.ref q7, .ref q31, .int 0, .int 0, .int 0, .int 0])), (q31, .inl (kcy K 0, 4, .inl (fun _ => 0))), (q9, .inr (1, [.ref q32, .int 0])), (q32, .inl (kcy K 0, 40, .inl (fun _ => 0))), (q10, .inl (kcy K 4, 3, .inr (.inr (.inr (.inr (va_up (va_up (va_up (fun _ => none) (0 : Int32).toNatClampNeg (some q33)) (1 : Int32).toNatClampNeg (some q34)) (2 : Int32).toNatClampNeg (some q35))))))), (q11, .inl (kcy K 5, 5, .inr (.inr (.inr (.inr (va_up (va_up (va_up (va_up (va_up (fun _ => none) (0 : Int32).toNatClampNeg (some q36)) (1 : Int32).toNatClampNeg (some q37)) (2 : Int32).toNatClampNeg (some q38)) (3 : Int32).toNatClampNeg (some q39)) (4 : Int32).toNatClampNeg (some q40))))))), (q12, .inl (kcy K 0, 4, .inl (fun _ => 0))), (q13, .inl (kcy K 0, 7, .inl (fun _ => 0))), (q14, .inl (kcy K 0, 6, .inl (fun _ => 0))), (q3, .inl (kcy K 0, 6, .inl (mF6.1 0))), (q5, .inl (kcy K 0, 4, .inl (mF4.1 0))), (q33, .inr (1, [.ref q41, .int (-1)])), (q41, .inl (kcy K 0, 40, .inl (fun _ => 0))), (q34, .inr (1, [.ref q42, .int (-1)])), (q42, .inl (kcy K 0, 40, .inl (fun _ => 0))), (q35, .inr (1, [.ref q43, .int (-1)])), (q43, .inl (kcy K 0, 40, .inl (fun _ => 0))), (q36, .inr (2, [.ref q7, .ref q44, .int 0, .int 0, .int 0, .int 0])), (q44, .inl (kcy K 0, 4, .inl (fun _ => 0))), (q37, .inr (2, [.ref q7, .ref q45, .int 0, .int 0, .int 0, .int 0])), (q45, .inl (kcy K 0, 4, .inl (fun _ => 0))), (q38, .inr (2, [.ref q7, .ref q46, .int 0, .int 0, .int 0, .int 0])), (q46, .inl (kcy K 0, 4, .inl (fun _ => 0))), (q39, .inr (2, [.ref q7, .ref q47, .int 0, .int 0, .int 0, .int 0])), (q47, .inl (kcy K 0, 4, .inl (fun _ => 0))), (q40, .inr (2, [.ref q7, .ref q48, .int 0, .int 0, .int 0, .int 0])), (q48, .inl (kcy K 0, 4, .inl (fun _ => 0))), (q51, .inr (11, [.null, .null, .null, .null, .null, .int 0, .null, .null, .int 0, .null, .null, .null, .int 0, .null, .int 0, .long 0, .long 0, .int 0, .null, .null, .null, .null]))] 63 875 11 [(1, .ref q1), (0, .ref b)] [.ref q51]
    refine k_dup C dL_law_11 rfl ?_
    refine k_callI (ar := 0) (wr := [(q1, .inr (10, [.ref q2, .ref q3, .ref q4, .ref q5, .ref q6, .ref q7, .ref q8, .ref q9, .ref q10, .ref q11, .ref q12, .int 0, .ref q13, .int 0, .long 0, .long 1, .int 0, .ref q14])), (q2, .inl (kcy K 2, 6, .inr (.inr (.inr (.inr (fun i => if i < 6 then some (r15 i) else none)))))), ((r15 0), .inl (kcy K 0, 40, .inl (fun _ => 0))), ((r15 1), .inl (kcy K 0, 40, .inl (fun _ => 0))), ((r15 2), .inl (kcy K 0, 40, .inl (fun _ => 0))), ((r15 3), .inl (kcy K 0, 40, .inl (fun _ => 0))), ((r15 4), .inl (kcy K 0, 40, .inl (fun _ => 0))), ((r15 5), .inl (kcy K 0, 40, .inl (fun _ => 0))), (q4, .inl (kcy K 3, 4, .inr (.inr (.inr (.inr (fun i => if i < 4 then some (r16 i) else none)))))), ((r16 0), .inl (kcy K 1, 60, .inl (fun _ => 0))), ((r16 1), .inl (kcy K 1, 60, .inl (fun _ => 0))), ((r16 2), .inl (kcy K 1, 60, .inl (fun _ => 0))), ((r16 3), .inl (kcy K 1, 60, .inl (fun _ => 0))), (q6, .inr (6, [.ref q17, .ref q18, .int 0])), (q17, .inl (kcy K 0, 4, .inl (fun _ => 0))), (q18, .inl (kcy K 2, 4, .inr (.inr (.inr (.inr (fun i => if i < 4 then some (r19 i) else none)))))), ((r19 0), .inl (kcy K 0, 6, .inl (fun _ => 0))), ((r19 1), .inl (kcy K 0, 6, .inl (fun _ => 0))), ((r19 2), .inl (kcy K 0, 6, .inl (fun _ => 0))), ((r19 3), .inl (kcy K 0, 6, .inl (fun _ => 0))), (q7, .inr (7, [.ref q20, .ref q21, .ref q22, .ref q23, .int 0])), (q20, .inl (kcy K 6, 6, .inr (.inr (.inr (.inr (va_up (va_up (va_up (va_up (va_up (va_up (fun _ => none) (0 : Int32).toNatClampNeg (some q24)) (1 : Int32).toNatClampNeg (some q25)) (2 : Int32).toNatClampNeg (some q26)) (3 : Int32).toNatClampNeg (some q27)) (4 : Int32).toNatClampNeg (some q28)) (5 : Int32).toNatClampNeg (some q29))))))), (q24, .inr (5, [])), (q25, .inr (9, [])), (q26, .inr (0, [])), (q27, .inr (3, [])), (q28, .inr (4, [])), (q29, .inr (8, [])), (q21, .inl (kcy K 0, 4, .inl (fun _ => 0))), (q22, .inl (kcy K 2, 4, .inr (.inr (.inr (.inr (fun i => if i < 4 then some (r30 i) else none)))))), ((r30 0), .inl (kcy K 0, 6, .inl (fun _ => 0))), ((r30 1), .inl (kcy K 0, 6, .inl (fun _ => 0))), ((r30 2), .inl (kcy K 0, 6, .inl (fun _ => 0))), ((r30 3), .inl (kcy K 0, 6, .inl (fun _ => 0))), (q23, .inl (kcy K 0, 4, .inl (fun _ => 0))), (q8, .inr (2, [.ref q7, .ref q31, .int 0, .int 0, .int 0, .int 0])), (q31, .inl (kcy K 0, 4, .inl (fun _ => 0))), (q9, .inr (1, [.ref q32, .int 0])), (q32, .inl (kcy K 0, 40, .inl (fun _ => 0))), (q10, .inl (kcy K 4, 3, .inr (.inr (.inr (.inr (va_up (va_up (va_up (fun _ => none) (0 : Int32).toNatClampNeg (some q33)) (1 : Int32).toNatClampNeg (some q34)) (2 : Int32).toNatClampNeg (some q35))))))), (q11, .inl (kcy K 5, 5, .inr (.inr (.inr (.inr (va_up (va_up (va_up (va_up (va_up (fun _ => none) (0 : Int32).toNatClampNeg (some q36)) (1 : Int32).toNatClampNeg (some q37)) (2 : Int32).toNatClampNeg (some q38)) (3 : Int32).toNatClampNeg (some q39)) (4 : Int32).toNatClampNeg (some q40))))))), (q12, .inl (kcy K 0, 4, .inl (fun _ => 0))), (q13, .inl (kcy K 0, 7, .inl (fun _ => 0))), (q14, .inl (kcy K 0, 6, .inl (fun _ => 0))), (q3, .inl (kcy K 0, 6, .inl (mF6.1 0))), (q5, .inl (kcy K 0, 4, .inl (mF4.1 0))), (q33, .inr (1, [.ref q41, .int (-1)])), (q41, .inl (kcy K 0, 40, .inl (fun _ => 0))), (q34, .inr (1, [.ref q42, .int (-1)])), (q42, .inl (kcy K 0, 40, .inl (fun _ => 0))), (q35, .inr (1, [.ref q43, .int (-1)])), (q43, .inl (kcy K 0, 40, .inl (fun _ => 0))), (q36, .inr (2, [.ref q7, .ref q44, .int 0, .int 0, .int 0, .int 0])), (q44, .inl (kcy K 0, 4, .inl (fun _ => 0))), (q37, .inr (2, [.ref q7, .ref q45, .int 0, .int 0, .int 0, .int 0])), (q45, .inl (kcy K 0, 4, .inl (fun _ => 0))), (q38, .inr (2, [.ref q7, .ref q46, .int 0, .int 0, .int 0, .int 0])), (q46, .inl (kcy K 0, 4, .inl (fun _ => 0))), (q39, .inr (2, [.ref q7, .ref q47, .int 0, .int 0, .int 0, .int 0])), (q47, .inl (kcy K 0, 4, .inl (fun _ => 0))), (q40, .inr (2, [.ref q7, .ref q48, .int 0, .int 0, .int 0, .int 0])), (q48, .inl (kcy K 0, 4, .inl (fun _ => 0)))]) (rest := [.ref q51]) C [62] [0, 1, 2, 3, 4, 5, 6, 7, 8, 9, 10, 11, 12, 13, 14, 15, 16, 17, 18, 19, 20, 21, 22, 23, 24, 25, 26, 27, 28, 29, 30, 31, 32, 33, 34, 35, 36, 37, 38, 39, 40, 41, 42, 43, 44, 45, 46, 47, 48, 49, 50, 51, 52, 53, 54, 55, 56, 57, 58, 59, 60, 61] (k_X11_init) hk_X11_init rfl tw759 tw760 tw75 tw761 (by decide) (by decide) (by decide) (by decide) rfl rfl (by decide) (by decide) (by decide) rfl rfl (Nat.le_of_ble_eq_true rfl) dL_law_12 (fun w68 p67 => ?_)
    obtain ⟨q52, p67_0⟩ := p67
    obtain ⟨q53, p67_1⟩ := p67_0
    obtain ⟨q54, p67_2⟩ := p67_1
    obtain ⟨q55, p67_3⟩ := p67_2
    obtain ⟨q56, p67_4⟩ := p67_3
    obtain ⟨q57, p67_5⟩ := p67_4
    obtain ⟨q58, p67_6⟩ := p67_5
    obtain ⟨q59, p67_7⟩ := p67_6
    obtain ⟨q60, p67_8⟩ := p67_7
    obtain ⟨q61, p67_9⟩ := p67_8
    obtain ⟨q62, p67_10⟩ := p67_9
    obtain ⟨q63, p67_11⟩ := p67_10
    obtain ⟨q64, p67_12⟩ := p67_11
    obtain ⟨q65, p67_13⟩ := p67_12
    obtain ⟨q66, p67_14⟩ := p67_13
    subst p67_14
    show Wc K (fun q : Nat => s.heap.size ≤ q) [(q1, .inr (10, [.ref q2, .ref q3, .ref q4, .ref q5, .ref q6, .ref q7, .ref q8, .ref q9, .ref q10, .ref q11, .ref q12, .int 0, .ref q13, .int 0, .long 0, .long 1, .int 0, .ref q14])), (q2, .inl (kcy K 2, 6, .inr (.inr (.inr (.inr (fun i => if i < 6 then some (r15 i) else none)))))), ((r15 0), .inl (kcy K 0, 40, .inl (fun _ => 0))), ((r15 1), .inl (kcy K 0, 40, .inl (fun _ => 0))), ((r15 2), .inl (kcy K 0, 40, .inl (fun _ => 0))), ((r15 3), .inl (kcy K 0, 40, .inl (fun _ => 0))), ((r15 4), .inl (kcy K 0, 40, .inl (fun _ => 0))), ((r15 5), .inl (kcy K 0, 40, .inl (fun _ => 0))), (q4, .inl (kcy K 3, 4, .inr (.inr (.inr (.inr (fun i => if i < 4 then some (r16 i) else none)))))), ((r16 0), .inl (kcy K 1, 60, .inl (fun _ => 0))), ((r16 1), .inl (kcy K 1, 60, .inl (fun _ => 0))), ((r16 2), .inl (kcy K 1, 60, .inl (fun _ => 0))), ((r16 3), .inl (kcy K 1, 60, .inl (fun _ => 0))), (q6, .inr (6, [.ref q17, .ref q18, .int 0])), (q17, .inl (kcy K 0, 4, .inl (fun _ => 0))), (q18, .inl (kcy K 2, 4, .inr (.inr (.inr (.inr (fun i => if i < 4 then some (r19 i) else none)))))), ((r19 0), .inl (kcy K 0, 6, .inl (fun _ => 0))), ((r19 1), .inl (kcy K 0, 6, .inl (fun _ => 0))), ((r19 2), .inl (kcy K 0, 6, .inl (fun _ => 0))), ((r19 3), .inl (kcy K 0, 6, .inl (fun _ => 0))), (q7, .inr (7, [.ref q20, .ref q21, .ref q22, .ref q23, .int 0])), (q20, .inl (kcy K 6, 6, .inr (.inr (.inr (.inr (va_up (va_up (va_up (va_up (va_up (va_up (fun _ => none) (0 : Int32).toNatClampNeg (some q24)) (1 : Int32).toNatClampNeg (some q25)) (2 : Int32).toNatClampNeg (some q26)) (3 : Int32).toNatClampNeg (some q27)) (4 : Int32).toNatClampNeg (some q28)) (5 : Int32).toNatClampNeg (some q29))))))), (q24, .inr (5, [])), (q25, .inr (9, [])), (q26, .inr (0, [])), (q27, .inr (3, [])), (q28, .inr (4, [])), (q29, .inr (8, [])), (q21, .inl (kcy K 0, 4, .inl (fun _ => 0))), (q22, .inl (kcy K 2, 4, .inr (.inr (.inr (.inr (fun i => if i < 4 then some (r30 i) else none)))))), ((r30 0), .inl (kcy K 0, 6, .inl (fun _ => 0))), ((r30 1), .inl (kcy K 0, 6, .inl (fun _ => 0))), ((r30 2), .inl (kcy K 0, 6, .inl (fun _ => 0))), ((r30 3), .inl (kcy K 0, 6, .inl (fun _ => 0))), (q23, .inl (kcy K 0, 4, .inl (fun _ => 0))), (q8, .inr (2, [.ref q7, .ref q31, .int 0, .int 0, .int 0, .int 0])), (q31, .inl (kcy K 0, 4, .inl (fun _ => 0))), (q9, .inr (1, [.ref q32, .int 0])), (q32, .inl (kcy K 0, 40, .inl (fun _ => 0))), (q10, .inl (kcy K 4, 3, .inr (.inr (.inr (.inr (va_up (va_up (va_up (fun _ => none) (0 : Int32).toNatClampNeg (some q33)) (1 : Int32).toNatClampNeg (some q34)) (2 : Int32).toNatClampNeg (some q35))))))), (q11, .inl (kcy K 5, 5, .inr (.inr (.inr (.inr (va_up (va_up (va_up (va_up (va_up (fun _ => none) (0 : Int32).toNatClampNeg (some q36)) (1 : Int32).toNatClampNeg (some q37)) (2 : Int32).toNatClampNeg (some q38)) (3 : Int32).toNatClampNeg (some q39)) (4 : Int32).toNatClampNeg (some q40))))))), (q12, .inl (kcy K 0, 4, .inl (fun _ => 0))), (q13, .inl (kcy K 0, 7, .inl (fun _ => 0))), (q14, .inl (kcy K 0, 6, .inl (fun _ => 0))), (q3, .inl (kcy K 0, 6, .inl (mF6.1 0))), (q5, .inl (kcy K 0, 4, .inl (mF4.1 0))), (q33, .inr (1, [.ref q41, .int (-1)])), (q41, .inl (kcy K 0, 40, .inl (fun _ => 0))), (q34, .inr (1, [.ref q42, .int (-1)])), (q42, .inl (kcy K 0, 40, .inl (fun _ => 0))), (q35, .inr (1, [.ref q43, .int (-1)])), (q43, .inl (kcy K 0, 40, .inl (fun _ => 0))), (q36, .inr (2, [.ref q7, .ref q44, .int 0, .int 0, .int 0, .int 0])), (q44, .inl (kcy K 0, 4, .inl (fun _ => 0))), (q37, .inr (2, [.ref q7, .ref q45, .int 0, .int 0, .int 0, .int 0])), (q45, .inl (kcy K 0, 4, .inl (fun _ => 0))), (q38, .inr (2, [.ref q7, .ref q46, .int 0, .int 0, .int 0, .int 0])), (q46, .inl (kcy K 0, 4, .inl (fun _ => 0))), (q39, .inr (2, [.ref q7, .ref q47, .int 0, .int 0, .int 0, .int 0])), (q47, .inl (kcy K 0, 4, .inl (fun _ => 0))), (q40, .inr (2, [.ref q7, .ref q48, .int 0, .int 0, .int 0, .int 0])), (q48, .inl (kcy K 0, 4, .inl (fun _ => 0))), (q51, .inr (11, [.ref q52, .ref q53, .ref q54, .ref q55, .ref q56, .int 0, .ref q57, .ref q58, .int 0, .ref q59, .ref q60, .ref q61, .int 0, .ref q62, .int 0, .long 0, .long 1, .int 0, .ref q63, .ref q64, .ref q65, .ref q66])), (q52, .inl (kcy K 0, 6, .inl (upd (upd (upd (upd (upd (upd (fun _ => 0) (0 : Int32).toNatClampNeg (-1)) (1 : Int32).toNatClampNeg (-1)) (2 : Int32).toNatClampNeg (-1)) (3 : Int32).toNatClampNeg (-1)) (4 : Int32).toNatClampNeg (-1)) (5 : Int32).toNatClampNeg (-1)))), (q53, .inl (kcy K 0, 240, .inl (fun _ => 0))), (q54, .inl (kcy K 0, 40, .inl (fun _ => 0))), (q55, .inl (kcy K 0, 4, .inl (upd (upd (upd (upd (fun _ => 0) (0 : Int32).toNatClampNeg (-1)) (1 : Int32).toNatClampNeg (-1)) (2 : Int32).toNatClampNeg (-1)) (3 : Int32).toNatClampNeg (-1)))), (q56, .inl (kcy K 1, 240, .inl (fun _ => 0))), (q57, .inl (kcy K 0, 4, .inl (fun _ => 0))), (q58, .inl (kcy K 0, 24, .inl (fun _ => 0))), (q59, .inl (kcy K 0, 4, .inl (fun _ => 0))), (q60, .inl (kcy K 0, 24, .inl (fun _ => 0))), (q61, .inl (kcy K 0, 1360, .inl (fun _ => 0))), (q62, .inl (kcy K 0, 3, .inl (upd (upd (upd (fun _ => 0) (0 : Int32).toNatClampNeg (-1)) (1 : Int32).toNatClampNeg (-1)) (2 : Int32).toNatClampNeg (-1)))), (q63, .inl (kcy K 0, 6, .inl (fun _ => 0))), (q64, .inl (kcy K 0, 5, .inl (fun _ => 0))), (q65, .inl (kcy K 0, 5, .inl (fun _ => 0))), (q66, .inl (kcy K 0, 5, .inl (fun _ => 0)))] 78 2845 15 [(1, .ref q1), (0, .ref b)] [.ref q51]
    refine k_astore_n (lv' := [(2, .ref q51), (1, .ref q1), (0, .ref b)]) C dL_law_15 (by rw [e5]; decide) rfl ?_
    intro H locs ls hP hD hS hl
    obtain ⟨adX, adM, eX, eM, hP, hD, hJX, hJM⟩ := law_world hP hD
    refine (?_ : Wc K (fun q : Nat => s.heap.size ≤ q) (mwo LX adX (kcy K) mX0 ++ mwo LM adM (kcy K) mM0) 78 2845 16 [(2, .ref q51), (1, .ref q1), (0, .ref b)] []) H locs ls hP hD hS hl
    rw [← eX, ← eM]
    refine k_iconst (v := 0) C dL_law_16 rfl ?_
    refine k_istore_n (lv' := [(3, .int 0), (2, .ref (adM 0)), (1, .ref (adX 0)), (0, .ref b)]) C dL_law_17 (by rw [e5]; decide) rfl ?_
    exact law_loop C e5 (by decide) (by decide) (by decide) S hL hJX hJM hE hst (fun _ _ lv => hend _ lv) (L + 1) 0 mX0 mM0 (by omega) (by omega) hI
  have h9 := key s.heap [] ls (fun k q h => by simp at h) ⟨fun i j p q h => by simp at h, fun k q h => by simp at h⟩
  rw [hKe] at h9
  exact h9 va_S.rf hl
