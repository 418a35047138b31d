def OpOK (e : Nat → Bool) (a1 a2 a3 a4 a5 : Int32) (σ μ : mS) (Z : mS → mS → Prop) : Nat → Prop
  | 0 => ∃ v : Int32, ∃ τ : mS, ∃ w : Int32, ∃ ν : mS, X10_row σ a1 a2 = some (v, τ) ∧ X11_row μ a1 a2 = some (w, ν) ∧ (e 0 = true → v = w) ∧ Z τ ν
  | 1 => ∃ v : Int32, ∃ τ : mS, ∃ w : Int32, ∃ ν : mS, X10_lay σ a1 a2 a3 = some (v, τ) ∧ X11_lay μ a1 a2 a3 = some (w, ν) ∧ (e 1 = true → v = w) ∧ Z τ ν
  | 2 => ∃ v : Int32, ∃ τ : mS, ∃ w : Int32, ∃ ν : mS, X10_at σ a1 a2 = some (v, τ) ∧ X11_at μ a1 a2 = some (w, ν) ∧ (e 2 = true → v = w) ∧ Z τ ν
  | 3 => ∃ v : Int32, ∃ τ : mS, ∃ w : Int32, ∃ ν : mS, X10_tear σ a1 = some (v, τ) ∧ X11_tear μ a1 = some (w, ν) ∧ (e 3 = true → v = w) ∧ Z τ ν
  | 4 => ∃ v : Int32, ∃ τ : mS, ∃ w : Int32, ∃ ν : mS, X10_copy σ a1 a2 a3 a4 a5 = some (v, τ) ∧ X11_copy μ a1 a2 a3 a4 a5 = some (w, ν) ∧ (e 4 = true → v = w) ∧ Z τ ν
  | 5 => ∃ v : Int32, ∃ τ : mS, ∃ w : Int32, ∃ ν : mS, X10_mean σ a1 = some (v, τ) ∧ X11_mean μ a1 = some (w, ν) ∧ (e 5 = true → v = w) ∧ Z τ ν
  | 6 => ∃ v : Int32, ∃ τ : mS, ∃ w : Int32, ∃ ν : mS, X10_text σ a1 a2 = some (v, τ) ∧ X11_text μ a1 a2 = some (w, ν) ∧ (e 6 = true → v = w) ∧ Z τ ν
  | 7 => ∃ v : Int32, ∃ τ : mS, ∃ w : Int32, ∃ ν : mS, X10_put σ a1 a2 a3 = some (v, τ) ∧ X11_put μ a1 a2 a3 = some (w, ν) ∧ (e 7 = true → v = w) ∧ Z τ ν
  | 8 => ∃ v : Int32, ∃ τ : mS, ∃ w : Int32, ∃ ν : mS, X10_fault σ a1 = some (v, τ) ∧ X11_fault μ a1 = some (w, ν) ∧ (e 8 = true → v = w) ∧ Z τ ν
  | 9 => ∃ v : Int32, ∃ τ : mS, ∃ w : Int32, ∃ ν : mS, X10_hall σ a1 = some (v, τ) ∧ X11_hall μ a1 = some (w, ν) ∧ (e 9 = true → v = w) ∧ Z τ ν
  | 10 => ∃ v : Int32, ∃ τ : mS, ∃ w : Int32, ∃ ν : mS, X10_player σ a1 a2 = some (v, τ) ∧ X11_player μ a1 a2 = some (w, ν) ∧ (e 10 = true → v = w) ∧ Z τ ν
  | 11 => ∃ v : Int32, ∃ τ : mS, ∃ w : Int32, ∃ ν : mS, X10_card σ a1 a2 = some (v, τ) ∧ X11_card μ a1 a2 = some (w, ν) ∧ (e 11 = true → v = w) ∧ Z τ ν
  | 12 => ∃ v : Int32, ∃ τ : mS, ∃ w : Int32, ∃ ν : mS, X10_mark σ a1 a2 = some (v, τ) ∧ X11_mark μ a1 a2 = some (w, ν) ∧ (e 12 = true → v = w) ∧ Z τ ν
  | 13 => ∃ v : Int32, ∃ τ : mS, ∃ w : Int32, ∃ ν : mS, X10_call σ a1 = some (v, τ) ∧ X11_call μ a1 = some (w, ν) ∧ (e 13 = true → v = w) ∧ Z τ ν
  | 14 => ∃ v : Int32, ∃ τ : mS, ∃ w : Int32, ∃ ν : mS, X10_rub σ a1 a2 = some (v, τ) ∧ X11_rub μ a1 a2 = some (w, ν) ∧ (e 14 = true → v = w) ∧ Z τ ν
  | 15 => ∃ v : Int32, ∃ τ : mS, ∃ w : Int32, ∃ ν : mS, X10_undo σ a1 = some (v, τ) ∧ X11_undo μ a1 = some (w, ν) ∧ (e 15 = true → v = w) ∧ Z τ ν
  | 16 => ∃ v : Int32, ∃ τ : mS, ∃ w : Int32, ∃ ν : mS, X10_keep σ a1 = some (v, τ) ∧ X11_keep μ a1 = some (w, ν) ∧ (e 16 = true → v = w) ∧ Z τ ν
  | 17 => ∃ v : Int32, ∃ τ : mS, ∃ w : Int32, ∃ ν : mS, X10_on σ a1 = some (v, τ) ∧ X11_on μ a1 = some (w, ν) ∧ (e 17 = true → v = w) ∧ Z τ ν
  | 18 => ∃ v : Int32, ∃ w : Int32, X10_hears σ a1 a2 a3 a4 = some v ∧ X11_hears μ a1 a2 a3 a4 = some w ∧ (e 18 = true → v = w) ∧ Z σ μ
  | 19 => ∃ v : Int32, ∃ τ : mS, ∃ w : Int32, ∃ ν : mS, X10_run σ a1 = some (v, τ) ∧ X11_run μ a1 = some (w, ν) ∧ (e 19 = true → v = w) ∧ Z τ ν
  | 20 => ∃ v : Int32, ∃ τ : mS, ∃ w : Int32, ∃ ν : mS, X10_safe σ = some (v, τ) ∧ X11_safe μ = some (w, ν) ∧ (e 20 = true → v = w) ∧ Z τ ν
  | 21 => ∃ v : Int32, ∃ τ : mS, ∃ w : Int32, ∃ ν : mS, X10_fewest σ a1 a2 = some (v, τ) ∧ X11_fewest μ a1 a2 = some (w, ν) ∧ (e 21 = true → v = w) ∧ Z τ ν
  | 22 => ∃ v : Int32, ∃ τ : mS, ∃ w : Int32, ∃ ν : mS, X10_most σ a1 a2 = some (v, τ) ∧ X11_most μ a1 a2 = some (w, ν) ∧ (e 22 = true → v = w) ∧ Z τ ν
  | 23 => ∃ v : Int32, ∃ w : Int32, X10_which σ a1 a2 = some v ∧ X11_which μ a1 a2 = some w ∧ (e 23 = true → v = w) ∧ Z σ μ
  | 24 => ∃ v : Int32, ∃ τ : mS, ∃ w : Int32, ∃ ν : mS, X10_kinds σ a1 a2 = some (v, τ) ∧ X11_kinds μ a1 a2 = some (w, ν) ∧ (e 24 = true → v = w) ∧ Z τ ν
  | 25 => ∃ v : Int32, ∃ τ : mS, ∃ w : Int32, ∃ ν : mS, X10_next σ a1 a2 = some (v, τ) ∧ X11_next μ a1 a2 = some (w, ν) ∧ (e 25 = true → v = w) ∧ Z τ ν
  | 26 => ∃ v : Int32, ∃ τ : mS, ∃ w : Int32, ∃ ν : mS, X10_duel σ a1 a2 a3 = some (v, τ) ∧ X11_duel μ a1 a2 a3 = some (w, ν) ∧ (e 26 = true → v = w) ∧ Z τ ν
  | 27 => ∃ v : Int32, ∃ τ : mS, ∃ w : Int32, ∃ ν : mS, X10_odds σ a1 a2 = some (v, τ) ∧ X11_odds μ a1 a2 = some (w, ν) ∧ (e 27 = true → v = w) ∧ Z τ ν
  | 28 => ∃ v : Int32, ∃ τ : mS, ∃ w : Int32, ∃ ν : mS, X10_mid σ a1 a2 = some (v, τ) ∧ X11_mid μ a1 a2 = some (w, ν) ∧ (e 28 = true → v = w) ∧ Z τ ν
  | 29 => ∃ v : Int32, ∃ τ : mS, ∃ w : Int32, ∃ ν : mS, X10_lots σ a1 a2 = some (v, τ) ∧ X11_lots μ a1 a2 = some (w, ν) ∧ (e 29 = true → v = w) ∧ Z τ ν
  | 30 => (e 30 = true → (X10_asked σ) = (X11_asked μ)) ∧ Z σ μ
  | 31 => (e 31 = true → (X10_upper σ) = (X11_upper μ)) ∧ Z σ μ
  | 32 => (e 32 = true → (X10_lower σ) = (X11_lower μ)) ∧ Z σ μ
  | 33 => ∃ v : Int32, ∃ w : Int32, X10_count σ a1 = some v ∧ X11_count μ a1 = some w ∧ (e 33 = true → v = w) ∧ Z σ μ
  | 34 => (e 34 = true → (X10_finding σ) = (X11_finding μ)) ∧ Z σ μ
  | 35 => ∃ v : Int32, ∃ w : Int32, X10_findings σ a1 = some v ∧ X11_findings μ a1 = some w ∧ (e 35 = true → v = w) ∧ Z σ μ
  | 36 => ∃ v : Int64, ∃ w : Int64, X10_digest σ = some v ∧ X11_digest μ = some w ∧ (e 36 = true → v = w) ∧ Z σ μ
  | _ => Z σ μ
set_option maxHeartbeats 4000000 in
set_option maxRecDepth 100000 in
theorem law_0 {K : Kx} {A : Nat → Prop} {n mc ms cs sl : Nat} (C : Cc K A code "CalledNumbersLaw" n mc ms) (hn : 900 ≤ n) (h8 : cs ≤ mc) (h9 : sl ≤ ms) {b L k : Nat} {xs : Nat → Int32} {i : Int32} {adX adM : Nat → Nat} (S : Sx K A b L xs) (h1 : Ix (i + 1) L (6 * k + 1)) (h2 : Ix (i + 2) L (6 * k + 2)) (h3 : Ix (i + 3) L (6 * k + 3)) (h4 : Ix (i + 4) L (6 * k + 4)) (h5 : Ix (i + 5) L (6 * k + 5)) (hJX : mJ LX adX) (hJM : mJ LM adM) {σ μ τ ν : mS} {v : Int32} {w : Int32} (hx : X10_row σ (xs (6 * k + 1)) (xs (6 * k + 2)) = some (v, τ)) (hm : X11_row μ (xs (6 * k + 1)) (xs (6 * k + 2)) = some (w, ν)) (kk : Wc K A (mwo LX adX (kcy K) τ ++ mwo LM adM (kcy K) ν) cs sl 1268 [(3, .int i), (2, .ref (adM 0)), (1, .ref (adX 0)), (0, .ref b)] []) : Wc K A (mwo LX adX (kcy K) σ ++ mwo LM adM (kcy K) μ) cs sl 196 [(3, .int i), (2, .ref (adM 0)), (1, .ref (adX 0)), (0, .ref b)] [] := by
  refine k_aload_n C 2 dL_law_196 rfl ?_
  refine k_aload_n C 3 dL_law_197 rfl ?_
  refine k_iload_n C 0 dL_law_198 rfl ?_
  refine k_iconst (v := 1) C dL_law_199 rfl ?_
  refine k_iadd C dL_law_200 ?_
  refine k_sld C S h1 dL_law_201 ?_
  refine k_aload_n C 3 dL_law_202 rfl ?_
  refine k_iload_n C 0 dL_law_203 rfl ?_
  refine k_iconst (v := 2) C dL_law_204 rfl ?_
  refine k_iadd C dL_law_205 ?_
  refine k_sld C S h2 dL_law_206 ?_
  refine k_callL (ar := 2) (q := (RX10, TX10, 18)) (rest := []) C hJX (c_X10_row hJX hx) (iX 0 (by decide)) rfl rfl hy_X10_row ⟨tw290, tw291, tw292, tw63, tw293⟩ (Nat.lt_of_lt_of_le (by decide) hn) (by decide) h8 h9 rfl rfl (Nat.le_of_ble_eq_true rfl) dL_law_207 ?_
  show Wc K A (mwo LX adX (kcy K) τ ++ mwo LM adM (kcy K) μ) cs sl 210 [(3, .int i), (2, .ref (adM 0)), (1, .ref (adX 0)), (0, .ref b)] [.int v]
  refine k_pop C dL_law_210 rfl ?_
  refine k_aload_n C 1 dL_law_211 rfl ?_
  refine k_aload_n C 3 dL_law_212 rfl ?_
  refine k_iload_n C 0 dL_law_213 rfl ?_
  refine k_iconst (v := 1) C dL_law_214 rfl ?_
  refine k_iadd C dL_law_215 ?_
  refine k_sld C S h1 dL_law_216 ?_
  refine k_aload_n C 3 dL_law_217 rfl ?_
  refine k_iload_n C 0 dL_law_218 rfl ?_
  refine k_iconst (v := 2) C dL_law_219 rfl ?_
  refine k_iadd C dL_law_220 ?_
  refine k_sld C S h2 dL_law_221 ?_
  refine k_swap ?_
  refine k_callL (ar := 2) (q := (RX11, TX11, 22)) (rest := []) C hJM (c_X11_row hJM hm) (iM 0 (by decide)) rfl rfl hy_X11_row ⟨tw830, tw831, tw832, tw75, tw833⟩ (Nat.lt_of_lt_of_le (by decide) hn) (by decide) h8 h9 rfl rfl (Nat.le_of_ble_eq_true rfl) dL_law_222 ?_
  show Wc K A (mwo LM adM (kcy K) ν ++ mwo LX adX (kcy K) τ) cs sl 225 [(3, .int i), (2, .ref (adM 0)), (1, .ref (adX 0)), (0, .ref b)] [.int w]
  refine k_pop C dL_law_225 rfl ?_
  refine k_goto C 1268 dL_law_226 (by decide) ?_
  refine k_swap ?_
  exact kk
set_option maxHeartbeats 4000000 in
set_option maxRecDepth 100000 in
theorem law_1 {K : Kx} {A : Nat → Prop} {n mc ms cs sl : Nat} (C : Cc K A code "CalledNumbersLaw" n mc ms) (hn : 900 ≤ n) (h8 : cs ≤ mc) (h9 : sl ≤ ms) {b L k : Nat} {xs : Nat → Int32} {i : Int32} {adX adM : Nat → Nat} (S : Sx K A b L xs) (h1 : Ix (i + 1) L (6 * k + 1)) (h2 : Ix (i + 2) L (6 * k + 2)) (h3 : Ix (i + 3) L (6 * k + 3)) (h4 : Ix (i + 4) L (6 * k + 4)) (h5 : Ix (i + 5) L (6 * k + 5)) (hJX : mJ LX adX) (hJM : mJ LM adM) {σ μ τ ν : mS} {v : Int32} {w : Int32} (hx : X10_lay σ (xs (6 * k + 1)) (xs (6 * k + 2)) (xs (6 * k + 3)) = some (v, τ)) (hm : X11_lay μ (xs (6 * k + 1)) (xs (6 * k + 2)) (xs (6 * k + 3)) = some (w, ν)) (kk : Wc K A (mwo LX adX (kcy K) τ ++ mwo LM adM (kcy K) ν) cs sl 1268 [(3, .int i), (2, .ref (adM 0)), (1, .ref (adX 0)), (0, .ref b)] []) : Wc K A (mwo LX adX (kcy K) σ ++ mwo LM adM (kcy K) μ) cs sl 229 [(3, .int i), (2, .ref (adM 0)), (1, .ref (adX 0)), (0, .ref b)] [] := by
  refine k_aload_n C 2 dL_law_229 rfl ?_
  refine k_aload_n C 3 dL_law_230 rfl ?_
  refine k_iload_n C 0 dL_law_231 rfl ?_
  refine k_iconst (v := 1) C dL_law_232 rfl ?_
  refine k_iadd C dL_law_233 ?_
  refine k_sld C S h1 dL_law_234 ?_
  refine k_aload_n C 3 dL_law_235 rfl ?_
  refine k_iload_n C 0 dL_law_236 rfl ?_
  refine k_iconst (v := 2) C dL_law_237 rfl ?_
  refine k_iadd C dL_law_238 ?_
  refine k_sld C S h2 dL_law_239 ?_
  refine k_aload_n C 3 dL_law_240 rfl ?_
  refine k_iload_n C 0 dL_law_241 rfl ?_
  refine k_iconst (v := 3) C dL_law_242 rfl ?_
  refine k_iadd C dL_law_243 ?_
  refine k_sld C S h3 dL_law_244 ?_
  refine k_callL (ar := 3) (q := (RX10, TX10, 18)) (rest := []) C hJX (c_X10_lay hJX hx) (iX 0 (by decide)) rfl rfl hy_X10_lay ⟨tw302, tw303, tw304, tw63, tw305⟩ (Nat.lt_of_lt_of_le (by decide) hn) (by decide) h8 h9 rfl rfl (Nat.le_of_ble_eq_true rfl) dL_law_245 ?_
  show Wc K A (mwo LX adX (kcy K) τ ++ mwo LM adM (kcy K) μ) cs sl 248 [(3, .int i), (2, .ref (adM 0)), (1, .ref (adX 0)), (0, .ref b)] [.int v]
  refine k_pop C dL_law_248 rfl ?_
  refine k_aload_n C 1 dL_law_249 rfl ?_
  refine k_aload_n C 3 dL_law_250 rfl ?_
  refine k_iload_n C 0 dL_law_251 rfl ?_
  refine k_iconst (v := 1) C dL_law_252 rfl ?_
  refine k_iadd C dL_law_253 ?_
  refine k_sld C S h1 dL_law_254 ?_
  refine k_aload_n C 3 dL_law_255 rfl ?_
  refine k_iload_n C 0 dL_law_256 rfl ?_
  refine k_iconst (v := 2) C dL_law_257 rfl ?_
  refine k_iadd C dL_law_258 ?_
  refine k_sld C S h2 dL_law_259 ?_
  refine k_aload_n C 3 dL_law_260 rfl ?_
  refine k_iload_n C 0 dL_law_261 rfl ?_
  refine k_iconst (v := 3) C dL_law_262 rfl ?_
  refine k_iadd C dL_law_263 ?_
  refine k_sld C S h3 dL_law_264 ?_
  refine k_swap ?_
  refine k_callL (ar := 3) (q := (RX11, TX11, 22)) (rest := []) C hJM (c_X11_lay hJM hm) (iM 0 (by decide)) rfl rfl hy_X11_lay ⟨tw850, tw851, tw852, tw75, tw853⟩ (Nat.lt_of_lt_of_le (by decide) hn) (by decide) h8 h9 rfl rfl (Nat.le_of_ble_eq_true rfl) dL_law_265 ?_
  show Wc K A (mwo LM adM (kcy K) ν ++ mwo LX adX (kcy K) τ) cs sl 268 [(3, .int i), (2, .ref (adM 0)), (1, .ref (adX 0)), (0, .ref b)] [.int w]
  refine k_pop C dL_law_268 rfl ?_
  refine k_goto C 1268 dL_law_269 (by decide) ?_
  refine k_swap ?_
  exact kk
set_option maxHeartbeats 4000000 in
set_option maxRecDepth 100000 in
theorem law_2 {K : Kx} {A : Nat → Prop} {n mc ms cs sl : Nat} (C : Cc K A code "CalledNumbersLaw" n mc ms) (hn : 900 ≤ n) (h8 : cs ≤ mc) (h9 : sl ≤ ms) {b L k : Nat} {xs : Nat → Int32} {i : Int32} {adX adM : Nat → Nat} (S : Sx K A b L xs) (h1 : Ix (i + 1) L (6 * k + 1)) (h2 : Ix (i + 2) L (6 * k + 2)) (h3 : Ix (i + 3) L (6 * k + 3)) (h4 : Ix (i + 4) L (6 * k + 4)) (h5 : Ix (i + 5) L (6 * k + 5)) (hJX : mJ LX adX) (hJM : mJ LM adM) {σ μ τ ν : mS} {v : Int32} {w : Int32} (hx : X10_at σ (xs (6 * k + 1)) (xs (6 * k + 2)) = some (v, τ)) (hm : X11_at μ (xs (6 * k + 1)) (xs (6 * k + 2)) = some (w, ν)) (kk : Wc K A (mwo LX adX (kcy K) τ ++ mwo LM adM (kcy K) ν) cs sl 1268 [(3, .int i), (2, .ref (adM 0)), (1, .ref (adX 0)), (0, .ref b)] []) : Wc K A (mwo LX adX (kcy K) σ ++ mwo LM adM (kcy K) μ) cs sl 272 [(3, .int i), (2, .ref (adM 0)), (1, .ref (adX 0)), (0, .ref b)] [] := by
  refine k_aload_n C 2 dL_law_272 rfl ?_
  refine k_aload_n C 3 dL_law_273 rfl ?_
  refine k_iload_n C 0 dL_law_274 rfl ?_
  refine k_iconst (v := 1) C dL_law_275 rfl ?_
  refine k_iadd C dL_law_276 ?_
  refine k_sld C S h1 dL_law_277 ?_
  refine k_aload_n C 3 dL_law_278 rfl ?_
  refine k_iload_n C 0 dL_law_279 rfl ?_
  refine k_iconst (v := 2) C dL_law_280 rfl ?_
  refine k_iadd C dL_law_281 ?_
  refine k_sld C S h2 dL_law_282 ?_
  refine k_callL (ar := 2) (q := (RX10, TX10, 18)) (rest := []) C hJX (c_X10_at hJX hx) (iX 0 (by decide)) rfl rfl hy_X10_at ⟨tw314, tw315, tw316, tw63, tw317⟩ (Nat.lt_of_lt_of_le (by decide) hn) (by decide) h8 h9 rfl rfl (Nat.le_of_ble_eq_true rfl) dL_law_283 ?_
  show Wc K A (mwo LX adX (kcy K) τ ++ mwo LM adM (kcy K) μ) cs sl 286 [(3, .int i), (2, .ref (adM 0)), (1, .ref (adX 0)), (0, .ref b)] [.int v]
  refine k_pop C dL_law_286 rfl ?_
  refine k_aload_n C 1 dL_law_287 rfl ?_
  refine k_aload_n C 3 dL_law_288 rfl ?_
  refine k_iload_n C 0 dL_law_289 rfl ?_
  refine k_iconst (v := 1) C dL_law_290 rfl ?_
  refine k_iadd C dL_law_291 ?_
  refine k_sld C S h1 dL_law_292 ?_
  refine k_aload_n C 3 dL_law_293 rfl ?_
  refine k_iload_n C 0 dL_law_294 rfl ?_
  refine k_iconst (v := 2) C dL_law_295 rfl ?_
  refine k_iadd C dL_law_296 ?_
  refine k_sld C S h2 dL_law_297 ?_
  refine k_swap ?_
  refine k_callL (ar := 2) (q := (RX11, TX11, 22)) (rest := []) C hJM (c_X11_at hJM hm) (iM 0 (by decide)) rfl rfl hy_X11_at ⟨tw858, tw859, tw860, tw75, tw861⟩ (Nat.lt_of_lt_of_le (by decide) hn) (by decide) h8 h9 rfl rfl (Nat.le_of_ble_eq_true rfl) dL_law_298 ?_
  show Wc K A (mwo LM adM (kcy K) ν ++ mwo LX adX (kcy K) τ) cs sl 301 [(3, .int i), (2, .ref (adM 0)), (1, .ref (adX 0)), (0, .ref b)] [.int w]
  refine k_pop C dL_law_301 rfl ?_
  refine k_goto C 1268 dL_law_302 (by decide) ?_
  refine k_swap ?_
  exact kk
set_option maxHeartbeats 4000000 in
set_option maxRecDepth 100000 in
theorem law_3 {K : Kx} {A : Nat → Prop} {n mc ms cs sl : Nat} (C : Cc K A code "CalledNumbersLaw" n mc ms) (hn : 900 ≤ n) (h8 : cs ≤ mc) (h9 : sl ≤ ms) {b L k : Nat} {xs : Nat → Int32} {i : Int32} {adX adM : Nat → Nat} (S : Sx K A b L xs) (h1 : Ix (i + 1) L (6 * k + 1)) (h2 : Ix (i + 2) L (6 * k + 2)) (h3 : Ix (i + 3) L (6 * k + 3)) (h4 : Ix (i + 4) L (6 * k + 4)) (h5 : Ix (i + 5) L (6 * k + 5)) (hJX : mJ LX adX) (hJM : mJ LM adM) {σ μ τ ν : mS} {v : Int32} {w : Int32} (hx : X10_tear σ (xs (6 * k + 1)) = some (v, τ)) (hm : X11_tear μ (xs (6 * k + 1)) = some (w, ν)) (kk : Wc K A (mwo LX adX (kcy K) τ ++ mwo LM adM (kcy K) ν) cs sl 1268 [(3, .int i), (2, .ref (adM 0)), (1, .ref (adX 0)), (0, .ref b)] []) : Wc K A (mwo LX adX (kcy K) σ ++ mwo LM adM (kcy K) μ) cs sl 305 [(3, .int i), (2, .ref (adM 0)), (1, .ref (adX 0)), (0, .ref b)] [] := by
  refine k_aload_n C 2 dL_law_305 rfl ?_
  refine k_aload_n C 3 dL_law_306 rfl ?_
  refine k_iload_n C 0 dL_law_307 rfl ?_
  refine k_iconst (v := 1) C dL_law_308 rfl ?_
  refine k_iadd C dL_law_309 ?_
  refine k_sld C S h1 dL_law_310 ?_
  refine k_callL (ar := 1) (q := (RX10, TX10, 18)) (rest := []) C hJX (c_X10_tear hJX hx) (iX 0 (by decide)) rfl rfl hy_X10_tear ⟨tw318, tw319, tw320, tw63, tw321⟩ (Nat.lt_of_lt_of_le (by decide) hn) (by decide) h8 h9 rfl rfl (Nat.le_of_ble_eq_true rfl) dL_law_311 ?_
  show Wc K A (mwo LX adX (kcy K) τ ++ mwo LM adM (kcy K) μ) cs sl 314 [(3, .int i), (2, .ref (adM 0)), (1, .ref (adX 0)), (0, .ref b)] [.int v]
  refine k_pop C dL_law_314 rfl ?_
  refine k_aload_n C 1 dL_law_315 rfl ?_
  refine k_aload_n C 3 dL_law_316 rfl ?_
  refine k_iload_n C 0 dL_law_317 rfl ?_
  refine k_iconst (v := 1) C dL_law_318 rfl ?_
  refine k_iadd C dL_law_319 ?_
  refine k_sld C S h1 dL_law_320 ?_
  refine k_swap ?_
  refine k_callL (ar := 1) (q := (RX11, TX11, 22)) (rest := []) C hJM (c_X11_tear hJM hm) (iM 0 (by decide)) rfl rfl hy_X11_tear ⟨tw862, tw863, tw864, tw75, tw865⟩ (Nat.lt_of_lt_of_le (by decide) hn) (by decide) h8 h9 rfl rfl (Nat.le_of_ble_eq_true rfl) dL_law_321 ?_
  show Wc K A (mwo LM adM (kcy K) ν ++ mwo LX adX (kcy K) τ) cs sl 324 [(3, .int i), (2, .ref (adM 0)), (1, .ref (adX 0)), (0, .ref b)] [.int w]
  refine k_pop C dL_law_324 rfl ?_
  refine k_goto C 1268 dL_law_325 (by decide) ?_
  refine k_swap ?_
  exact kk
set_option maxHeartbeats 4000000 in
set_option maxRecDepth 100000 in
theorem law_4 {K : Kx} {A : Nat → Prop} {n mc ms cs sl : Nat} (C : Cc K A code "CalledNumbersLaw" n mc ms) (hn : 900 ≤ n) (h8 : cs ≤ mc) (h9 : sl ≤ ms) {b L k : Nat} {xs : Nat → Int32} {i : Int32} {adX adM : Nat → Nat} (S : Sx K A b L xs) (h1 : Ix (i + 1) L (6 * k + 1)) (h2 : Ix (i + 2) L (6 * k + 2)) (h3 : Ix (i + 3) L (6 * k + 3)) (h4 : Ix (i + 4) L (6 * k + 4)) (h5 : Ix (i + 5) L (6 * k + 5)) (hJX : mJ LX adX) (hJM : mJ LM adM) {σ μ τ ν : mS} {v : Int32} {w : Int32} (hx : X10_copy σ (xs (6 * k + 1)) (xs (6 * k + 2)) (xs (6 * k + 3)) (xs (6 * k + 4)) (xs (6 * k + 5)) = some (v, τ)) (hm : X11_copy μ (xs (6 * k + 1)) (xs (6 * k + 2)) (xs (6 * k + 3)) (xs (6 * k + 4)) (xs (6 * k + 5)) = some (w, ν)) (kk : Wc K A (mwo LX adX (kcy K) τ ++ mwo LM adM (kcy K) ν) cs sl 1268 [(3, .int i), (2, .ref (adM 0)), (1, .ref (adX 0)), (0, .ref b)] []) : Wc K A (mwo LX adX (kcy K) σ ++ mwo LM adM (kcy K) μ) cs sl 328 [(3, .int i), (2, .ref (adM 0)), (1, .ref (adX 0)), (0, .ref b)] [] := by
  refine k_aload_n C 2 dL_law_328 rfl ?_
  refine k_aload_n C 3 dL_law_329 rfl ?_
  refine k_iload_n C 0 dL_law_330 rfl ?_
  refine k_iconst (v := 1) C dL_law_331 rfl ?_
  refine k_iadd C dL_law_332 ?_
  refine k_sld C S h1 dL_law_333 ?_
  refine k_aload_n C 3 dL_law_334 rfl ?_
  refine k_iload_n C 0 dL_law_335 rfl ?_
  refine k_iconst (v := 2) C dL_law_336 rfl ?_
  refine k_iadd C dL_law_337 ?_
  refine k_sld C S h2 dL_law_338 ?_
  refine k_aload_n C 3 dL_law_339 rfl ?_
  refine k_iload_n C 0 dL_law_340 rfl ?_
  refine k_iconst (v := 3) C dL_law_341 rfl ?_
  refine k_iadd C dL_law_342 ?_
  refine k_sld C S h3 dL_law_343 ?_
  refine k_aload_n C 3 dL_law_344 rfl ?_
  refine k_iload_n C 0 dL_law_345 rfl ?_
  refine k_iconst (v := 4) C dL_law_346 rfl ?_
  refine k_iadd C dL_law_347 ?_
  refine k_sld C S h4 dL_law_348 ?_
  refine k_aload_n C 3 dL_law_349 rfl ?_
  refine k_iload_n C 0 dL_law_350 rfl ?_
  refine k_iconst (v := 5) C dL_law_351 rfl ?_
  refine k_iadd C dL_law_352 ?_
  refine k_sld C S h5 dL_law_353 ?_
  refine k_callL (ar := 5) (q := (RX10, TX10, 18)) (rest := []) C hJX (c_X10_copy hJX hx) (iX 0 (by decide)) rfl rfl hy_X10_copy ⟨tw322, tw323, tw324, tw63, tw325⟩ (Nat.lt_of_lt_of_le (by decide) hn) (by decide) h8 h9 rfl rfl (Nat.le_of_ble_eq_true rfl) dL_law_354 ?_
  show Wc K A (mwo LX adX (kcy K) τ ++ mwo LM adM (kcy K) μ) cs sl 357 [(3, .int i), (2, .ref (adM 0)), (1, .ref (adX 0)), (0, .ref b)] [.int v]
  refine k_pop C dL_law_357 rfl ?_
  refine k_aload_n C 1 dL_law_358 rfl ?_
  refine k_aload_n C 3 dL_law_359 rfl ?_
  refine k_iload_n C 0 dL_law_360 rfl ?_
  refine k_iconst (v := 1) C dL_law_361 rfl ?_
  refine k_iadd C dL_law_362 ?_
  refine k_sld C S h1 dL_law_363 ?_
  refine k_aload_n C 3 dL_law_364 rfl ?_
  refine k_iload_n C 0 dL_law_365 rfl ?_
  refine k_iconst (v := 2) C dL_law_366 rfl ?_
  refine k_iadd C dL_law_367 ?_
  refine k_sld C S h2 dL_law_368 ?_
  refine k_aload_n C 3 dL_law_369 rfl ?_
  refine k_iload_n C 0 dL_law_370 rfl ?_
  refine k_iconst (v := 3) C dL_law_371 rfl ?_
  refine k_iadd C dL_law_372 ?_
  refine k_sld C S h3 dL_law_373 ?_
  refine k_aload_n C 3 dL_law_374 rfl ?_
  refine k_iload_n C 0 dL_law_375 rfl ?_
  refine k_iconst (v := 4) C dL_law_376 rfl ?_
  refine k_iadd C dL_law_377 ?_
  refine k_sld C S h4 dL_law_378 ?_
  refine k_aload_n C 3 dL_law_379 rfl ?_
  refine k_iload_n C 0 dL_law_380 rfl ?_
  refine k_iconst (v := 5) C dL_law_381 rfl ?_
  refine k_iadd C dL_law_382 ?_
  refine k_sld C S h5 dL_law_383 ?_
  refine k_swap ?_
  refine k_callL (ar := 5) (q := (RX11, TX11, 22)) (rest := []) C hJM (c_X11_copy hJM hm) (iM 0 (by decide)) rfl rfl hy_X11_copy ⟨tw866, tw867, tw868, tw75, tw869⟩ (Nat.lt_of_lt_of_le (by decide) hn) (by decide) h8 h9 rfl rfl (Nat.le_of_ble_eq_true rfl) dL_law_384 ?_
  show Wc K A (mwo LM adM (kcy K) ν ++ mwo LX adX (kcy K) τ) cs sl 387 [(3, .int i), (2, .ref (adM 0)), (1, .ref (adX 0)), (0, .ref b)] [.int w]
  refine k_pop C dL_law_387 rfl ?_
  refine k_goto C 1268 dL_law_388 (by decide) ?_
  refine k_swap ?_
  exact kk
set_option maxHeartbeats 4000000 in
set_option maxRecDepth 100000 in
theorem law_5 {K : Kx} {A : Nat → Prop} {n mc ms cs sl : Nat} (C : Cc K A code "CalledNumbersLaw" n mc ms) (hn : 900 ≤ n) (h8 : cs ≤ mc) (h9 : sl ≤ ms) {b L k : Nat} {xs : Nat → Int32} {i : Int32} {adX adM : Nat → Nat} (S : Sx K A b L xs) (h1 : Ix (i + 1) L (6 * k + 1)) (h2 : Ix (i + 2) L (6 * k + 2)) (h3 : Ix (i + 3) L (6 * k + 3)) (h4 : Ix (i + 4) L (6 * k + 4)) (h5 : Ix (i + 5) L (6 * k + 5)) (hJX : mJ LX adX) (hJM : mJ LM adM) {σ μ τ ν : mS} {v : Int32} {w : Int32} (hx : X10_mean σ (xs (6 * k + 1)) = some (v, τ)) (hm : X11_mean μ (xs (6 * k + 1)) = some (w, ν)) (kk : Wc K A (mwo LX adX (kcy K) τ ++ mwo LM adM (kcy K) ν) cs sl 1268 [(3, .int i), (2, .ref (adM 0)), (1, .ref (adX 0)), (0, .ref b)] []) : Wc K A (mwo LX adX (kcy K) σ ++ mwo LM adM (kcy K) μ) cs sl 391 [(3, .int i), (2, .ref (adM 0)), (1, .ref (adX 0)), (0, .ref b)] [] := by
  refine k_aload_n C 2 dL_law_391 rfl ?_
  refine k_aload_n C 3 dL_law_392 rfl ?_
  refine k_iload_n C 0 dL_law_393 rfl ?_
  refine k_iconst (v := 1) C dL_law_394 rfl ?_
  refine k_iadd C dL_law_395 ?_
  refine k_sld C S h1 dL_law_396 ?_
  refine k_callL (ar := 1) (q := (RX10, TX10, 18)) (rest := []) C hJX (c_X10_mean hJX hx) (iX 0 (by decide)) rfl rfl hy_X10_mean ⟨tw333, tw334, tw335, tw63, tw336⟩ (Nat.lt_of_lt_of_le (by decide) hn) (by decide) h8 h9 rfl rfl (Nat.le_of_ble_eq_true rfl) dL_law_397 ?_
  show Wc K A (mwo LX adX (kcy K) τ ++ mwo LM adM (kcy K) μ) cs sl 400 [(3, .int i), (2, .ref (adM 0)), (1, .ref (adX 0)), (0, .ref b)] [.int v]
  refine k_pop C dL_law_400 rfl ?_
  refine k_aload_n C 1 dL_law_401 rfl ?_
  refine k_aload_n C 3 dL_law_402 rfl ?_
  refine k_iload_n C 0 dL_law_403 rfl ?_
  refine k_iconst (v := 1) C dL_law_404 rfl ?_
  refine k_iadd C dL_law_405 ?_
  refine k_sld C S h1 dL_law_406 ?_
  refine k_swap ?_
  refine k_callL (ar := 1) (q := (RX11, TX11, 22)) (rest := []) C hJM (c_X11_mean hJM hm) (iM 0 (by decide)) rfl rfl hy_X11_mean ⟨tw870, tw871, tw872, tw75, tw873⟩ (Nat.lt_of_lt_of_le (by decide) hn) (by decide) h8 h9 rfl rfl (Nat.le_of_ble_eq_true rfl) dL_law_407 ?_
  show Wc K A (mwo LM adM (kcy K) ν ++ mwo LX adX (kcy K) τ) cs sl 410 [(3, .int i), (2, .ref (adM 0)), (1, .ref (adX 0)), (0, .ref b)] [.int w]
  refine k_pop C dL_law_410 rfl ?_
  refine k_goto C 1268 dL_law_411 (by decide) ?_
  refine k_swap ?_
  exact kk
set_option maxHeartbeats 4000000 in
set_option maxRecDepth 100000 in
theorem law_6 {K : Kx} {A : Nat → Prop} {n mc ms cs sl : Nat} (C : Cc K A code "CalledNumbersLaw" n mc ms) (hn : 900 ≤ n) (h8 : cs ≤ mc) (h9 : sl ≤ ms) {b L k : Nat} {xs : Nat → Int32} {i : Int32} {adX adM : Nat → Nat} (S : Sx K A b L xs) (h1 : Ix (i + 1) L (6 * k + 1)) (h2 : Ix (i + 2) L (6 * k + 2)) (h3 : Ix (i + 3) L (6 * k + 3)) (h4 : Ix (i + 4) L (6 * k + 4)) (h5 : Ix (i + 5) L (6 * k + 5)) (hJX : mJ LX adX) (hJM : mJ LM adM) {σ μ τ ν : mS} {v : Int32} {w : Int32} (hx : X10_text σ (xs (6 * k + 1)) (xs (6 * k + 2)) = some (v, τ)) (hm : X11_text μ (xs (6 * k + 1)) (xs (6 * k + 2)) = some (w, ν)) (kk : Wc K A (mwo LX adX (kcy K) τ ++ mwo LM adM (kcy K) ν) cs sl 1268 [(3, .int i), (2, .ref (adM 0)), (1, .ref (adX 0)), (0, .ref b)] []) : Wc K A (mwo LX adX (kcy K) σ ++ mwo LM adM (kcy K) μ) cs sl 414 [(3, .int i), (2, .ref (adM 0)), (1, .ref (adX 0)), (0, .ref b)] [] := by
  refine k_aload_n C 2 dL_law_414 rfl ?_
  refine k_aload_n C 3 dL_law_415 rfl ?_
  refine k_iload_n C 0 dL_law_416 rfl ?_
  refine k_iconst (v := 1) C dL_law_417 rfl ?_
  refine k_iadd C dL_law_418 ?_
  refine k_sld C S h1 dL_law_419 ?_
  refine k_aload_n C 3 dL_law_420 rfl ?_
  refine k_iload_n C 0 dL_law_421 rfl ?_
  refine k_iconst (v := 2) C dL_law_422 rfl ?_
  refine k_iadd C dL_law_423 ?_
  refine k_sld C S h2 dL_law_424 ?_
  refine k_callL (ar := 2) (q := (RX10, TX10, 18)) (rest := []) C hJX (c_X10_text hJX hx) (iX 0 (by decide)) rfl rfl hy_X10_text ⟨tw337, tw338, tw339, tw63, tw340⟩ (Nat.lt_of_lt_of_le (by decide) hn) (by decide) h8 h9 rfl rfl (Nat.le_of_ble_eq_true rfl) dL_law_425 ?_
  show Wc K A (mwo LX adX (kcy K) τ ++ mwo LM adM (kcy K) μ) cs sl 428 [(3, .int i), (2, .ref (adM 0)), (1, .ref (adX 0)), (0, .ref b)] [.int v]
  refine k_pop C dL_law_428 rfl ?_
  refine k_aload_n C 1 dL_law_429 rfl ?_
  refine k_aload_n C 3 dL_law_430 rfl ?_
  refine k_iload_n C 0 dL_law_431 rfl ?_
  refine k_iconst (v := 1) C dL_law_432 rfl ?_
  refine k_iadd C dL_law_433 ?_
  refine k_sld C S h1 dL_law_434 ?_
  refine k_aload_n C 3 dL_law_435 rfl ?_
  refine k_iload_n C 0 dL_law_436 rfl ?_
  refine k_iconst (v := 2) C dL_law_437 rfl ?_
  refine k_iadd C dL_law_438 ?_
  refine k_sld C S h2 dL_law_439 ?_
  refine k_swap ?_
  refine k_callL (ar := 2) (q := (RX11, TX11, 22)) (rest := []) C hJM (c_X11_text hJM hm) (iM 0 (by decide)) rfl rfl hy_X11_text ⟨tw874, tw875, tw876, tw75, tw877⟩ (Nat.lt_of_lt_of_le (by decide) hn) (by decide) h8 h9 rfl rfl (Nat.le_of_ble_eq_true rfl) dL_law_440 ?_
  show Wc K A (mwo LM adM (kcy K) ν ++ mwo LX adX (kcy K) τ) cs sl 443 [(3, .int i), (2, .ref (adM 0)), (1, .ref (adX 0)), (0, .ref b)] [.int w]
  refine k_pop C dL_law_443 rfl ?_
  refine k_goto C 1268 dL_law_444 (by decide) ?_
  refine k_swap ?_
  exact kk
set_option maxHeartbeats 4000000 in
set_option maxRecDepth 100000 in
theorem law_7 {K : Kx} {A : Nat → Prop} {n mc ms cs sl : Nat} (C : Cc K A code "CalledNumbersLaw" n mc ms) (hn : 900 ≤ n) (h8 : cs ≤ mc) (h9 : sl ≤ ms) {b L k : Nat} {xs : Nat → Int32} {i : Int32} {adX adM : Nat → Nat} (S : Sx K A b L xs) (h1 : Ix (i + 1) L (6 * k + 1)) (h2 : Ix (i + 2) L (6 * k + 2)) (h3 : Ix (i + 3) L (6 * k + 3)) (h4 : Ix (i + 4) L (6 * k + 4)) (h5 : Ix (i + 5) L (6 * k + 5)) (hJX : mJ LX adX) (hJM : mJ LM adM) {σ μ τ ν : mS} {v : Int32} {w : Int32} (hx : X10_put σ (xs (6 * k + 1)) (xs (6 * k + 2)) (xs (6 * k + 3)) = some (v, τ)) (hm : X11_put μ (xs (6 * k + 1)) (xs (6 * k + 2)) (xs (6 * k + 3)) = some (w, ν)) (kk : Wc K A (mwo LX adX (kcy K) τ ++ mwo LM adM (kcy K) ν) cs sl 1268 [(3, .int i), (2, .ref (adM 0)), (1, .ref (adX 0)), (0, .ref b)] []) : Wc K A (mwo LX adX (kcy K) σ ++ mwo LM adM (kcy K) μ) cs sl 447 [(3, .int i), (2, .ref (adM 0)), (1, .ref (adX 0)), (0, .ref b)] [] := by
  refine k_aload_n C 2 dL_law_447 rfl ?_
  refine k_aload_n C 3 dL_law_448 rfl ?_
  refine k_iload_n C 0 dL_law_449 rfl ?_
  refine k_iconst (v := 1) C dL_law_450 rfl ?_
  refine k_iadd C dL_law_451 ?_
  refine k_sld C S h1 dL_law_452 ?_
  refine k_aload_n C 3 dL_law_453 rfl ?_
  refine k_iload_n C 0 dL_law_454 rfl ?_
  refine k_iconst (v := 2) C dL_law_455 rfl ?_
  refine k_iadd C dL_law_456 ?_
  refine k_sld C S h2 dL_law_457 ?_
  refine k_aload_n C 3 dL_law_458 rfl ?_
  refine k_iload_n C 0 dL_law_459 rfl ?_
  refine k_iconst (v := 3) C dL_law_460 rfl ?_
  refine k_iadd C dL_law_461 ?_
  refine k_sld C S h3 dL_law_462 ?_
  refine k_callL (ar := 3) (q := (RX10, TX10, 18)) (rest := []) C hJX (c_X10_put hJX hx) (iX 0 (by decide)) rfl rfl hy_X10_put ⟨tw348, tw349, tw350, tw63, tw351⟩ (Nat.lt_of_lt_of_le (by decide) hn) (by decide) h8 h9 rfl rfl (Nat.le_of_ble_eq_true rfl) dL_law_463 ?_
  show Wc K A (mwo LX adX (kcy K) τ ++ mwo LM adM (kcy K) μ) cs sl 466 [(3, .int i), (2, .ref (adM 0)), (1, .ref (adX 0)), (0, .ref b)] [.int v]
  refine k_pop C dL_law_466 rfl ?_
  refine k_aload_n C 1 dL_law_467 rfl ?_
  refine k_aload_n C 3 dL_law_468 rfl ?_
  refine k_iload_n C 0 dL_law_469 rfl ?_
  refine k_iconst (v := 1) C dL_law_470 rfl ?_
  refine k_iadd C dL_law_471 ?_
  refine k_sld C S h1 dL_law_472 ?_
  refine k_aload_n C 3 dL_law_473 rfl ?_
  refine k_iload_n C 0 dL_law_474 rfl ?_
  refine k_iconst (v := 2) C dL_law_475 rfl ?_
  refine k_iadd C dL_law_476 ?_
  refine k_sld C S h2 dL_law_477 ?_
  refine k_aload_n C 3 dL_law_478 rfl ?_
  refine k_iload_n C 0 dL_law_479 rfl ?_
  refine k_iconst (v := 3) C dL_law_480 rfl ?_
  refine k_iadd C dL_law_481 ?_
  refine k_sld C S h3 dL_law_482 ?_
  refine k_swap ?_
  refine k_callL (ar := 3) (q := (RX11, TX11, 22)) (rest := []) C hJM (c_X11_put hJM hm) (iM 0 (by decide)) rfl rfl hy_X11_put ⟨tw883, tw884, tw885, tw75, tw886⟩ (Nat.lt_of_lt_of_le (by decide) hn) (by decide) h8 h9 rfl rfl (Nat.le_of_ble_eq_true rfl) dL_law_483 ?_
  show Wc K A (mwo LM adM (kcy K) ν ++ mwo LX adX (kcy K) τ) cs sl 486 [(3, .int i), (2, .ref (adM 0)), (1, .ref (adX 0)), (0, .ref b)] [.int w]
  refine k_pop C dL_law_486 rfl ?_
  refine k_goto C 1268 dL_law_487 (by decide) ?_
  refine k_swap ?_
  exact kk
set_option maxHeartbeats 4000000 in
set_option maxRecDepth 100000 in
theorem law_8 {K : Kx} {A : Nat → Prop} {n mc ms cs sl : Nat} (C : Cc K A code "CalledNumbersLaw" n mc ms) (hn : 900 ≤ n) (h8 : cs ≤ mc) (h9 : sl ≤ ms) {b L k : Nat} {xs : Nat → Int32} {i : Int32} {adX adM : Nat → Nat} (S : Sx K A b L xs) (h1 : Ix (i + 1) L (6 * k + 1)) (h2 : Ix (i + 2) L (6 * k + 2)) (h3 : Ix (i + 3) L (6 * k + 3)) (h4 : Ix (i + 4) L (6 * k + 4)) (h5 : Ix (i + 5) L (6 * k + 5)) (hJX : mJ LX adX) (hJM : mJ LM adM) {σ μ τ ν : mS} {v : Int32} {w : Int32} (hx : X10_fault σ (xs (6 * k + 1)) = some (v, τ)) (hm : X11_fault μ (xs (6 * k + 1)) = some (w, ν)) (kk : Wc K A (mwo LX adX (kcy K) τ ++ mwo LM adM (kcy K) ν) cs sl 1268 [(3, .int i), (2, .ref (adM 0)), (1, .ref (adX 0)), (0, .ref b)] []) : Wc K A (mwo LX adX (kcy K) σ ++ mwo LM adM (kcy K) μ) cs sl 490 [(3, .int i), (2, .ref (adM 0)), (1, .ref (adX 0)), (0, .ref b)] [] := by
  refine k_aload_n C 2 dL_law_490 rfl ?_
  refine k_aload_n C 3 dL_law_491 rfl ?_
  refine k_iload_n C 0 dL_law_492 rfl ?_
  refine k_iconst (v := 1) C dL_law_493 rfl ?_
  refine k_iadd C dL_law_494 ?_
  refine k_sld C S h1 dL_law_495 ?_
  refine k_callL (ar := 1) (q := (RX10, TX10, 18)) (rest := []) C hJX (c_X10_fault hJX hx) (iX 0 (by decide)) rfl rfl hy_X10_fault ⟨tw356, tw357, tw358, tw63, tw359⟩ (Nat.lt_of_lt_of_le (by decide) hn) (by decide) h8 h9 rfl rfl (Nat.le_of_ble_eq_true rfl) dL_law_496 ?_
  show Wc K A (mwo LX adX (kcy K) τ ++ mwo LM adM (kcy K) μ) cs sl 499 [(3, .int i), (2, .ref (adM 0)), (1, .ref (adX 0)), (0, .ref b)] [.int v]
  refine k_pop C dL_law_499 rfl ?_
  refine k_aload_n C 1 dL_law_500 rfl ?_
  refine k_aload_n C 3 dL_law_501 rfl ?_
  refine k_iload_n C 0 dL_law_502 rfl ?_
  refine k_iconst (v := 1) C dL_law_503 rfl ?_
  refine k_iadd C dL_law_504 ?_
  refine k_sld C S h1 dL_law_505 ?_
  refine k_swap ?_
  refine k_callL (ar := 1) (q := (RX11, TX11, 22)) (rest := []) C hJM (c_X11_fault hJM hm) (iM 0 (by decide)) rfl rfl hy_X11_fault ⟨tw887, tw888, tw889, tw75, tw890⟩ (Nat.lt_of_lt_of_le (by decide) hn) (by decide) h8 h9 rfl rfl (Nat.le_of_ble_eq_true rfl) dL_law_506 ?_
  show Wc K A (mwo LM adM (kcy K) ν ++ mwo LX adX (kcy K) τ) cs sl 509 [(3, .int i), (2, .ref (adM 0)), (1, .ref (adX 0)), (0, .ref b)] [.int w]
  refine k_pop C dL_law_509 rfl ?_
  refine k_goto C 1268 dL_law_510 (by decide) ?_
  refine k_swap ?_
  exact kk
set_option maxHeartbeats 4000000 in
set_option maxRecDepth 100000 in
theorem law_9 {K : Kx} {A : Nat → Prop} {n mc ms cs sl : Nat} (C : Cc K A code "CalledNumbersLaw" n mc ms) (hn : 900 ≤ n) (h8 : cs ≤ mc) (h9 : sl ≤ ms) {b L k : Nat} {xs : Nat → Int32} {i : Int32} {adX adM : Nat → Nat} (S : Sx K A b L xs) (h1 : Ix (i + 1) L (6 * k + 1)) (h2 : Ix (i + 2) L (6 * k + 2)) (h3 : Ix (i + 3) L (6 * k + 3)) (h4 : Ix (i + 4) L (6 * k + 4)) (h5 : Ix (i + 5) L (6 * k + 5)) (hJX : mJ LX adX) (hJM : mJ LM adM) {σ μ τ ν : mS} {v : Int32} {w : Int32} (hx : X10_hall σ (xs (6 * k + 1)) = some (v, τ)) (hm : X11_hall μ (xs (6 * k + 1)) = some (w, ν)) (kk : Wc K A (mwo LX adX (kcy K) τ ++ mwo LM adM (kcy K) ν) cs sl 1268 [(3, .int i), (2, .ref (adM 0)), (1, .ref (adX 0)), (0, .ref b)] []) : Wc K A (mwo LX adX (kcy K) σ ++ mwo LM adM (kcy K) μ) cs sl 513 [(3, .int i), (2, .ref (adM 0)), (1, .ref (adX 0)), (0, .ref b)] [] := by
  refine k_aload_n C 2 dL_law_513 rfl ?_
  refine k_aload_n C 3 dL_law_514 rfl ?_
  refine k_iload_n C 0 dL_law_515 rfl ?_
  refine k_iconst (v := 1) C dL_law_516 rfl ?_
  refine k_iadd C dL_law_517 ?_
  refine k_sld C S h1 dL_law_518 ?_
  refine k_callL (ar := 1) (q := (RX10, TX10, 18)) (rest := []) C hJX (c_X10_hall hJX hx) (iX 0 (by decide)) rfl rfl hy_X10_hall ⟨tw373, tw374, tw375, tw63, tw376⟩ (Nat.lt_of_lt_of_le (by decide) hn) (by decide) h8 h9 rfl rfl (Nat.le_of_ble_eq_true rfl) dL_law_519 ?_
  show Wc K A (mwo LX adX (kcy K) τ ++ mwo LM adM (kcy K) μ) cs sl 522 [(3, .int i), (2, .ref (adM 0)), (1, .ref (adX 0)), (0, .ref b)] [.int v]
  refine k_pop C dL_law_522 rfl ?_
  refine k_aload_n C 1 dL_law_523 rfl ?_
  refine k_aload_n C 3 dL_law_524 rfl ?_
  refine k_iload_n C 0 dL_law_525 rfl ?_
  refine k_iconst (v := 1) C dL_law_526 rfl ?_
  refine k_iadd C dL_law_527 ?_
  refine k_sld C S h1 dL_law_528 ?_
  refine k_swap ?_
  refine k_callL (ar := 1) (q := (RX11, TX11, 22)) (rest := []) C hJM (c_X11_hall hJM hm) (iM 0 (by decide)) rfl rfl hy_X11_hall ⟨tw916, tw917, tw918, tw75, tw919⟩ (Nat.lt_of_lt_of_le (by decide) hn) (by decide) h8 h9 rfl rfl (Nat.le_of_ble_eq_true rfl) dL_law_529 ?_
  show Wc K A (mwo LM adM (kcy K) ν ++ mwo LX adX (kcy K) τ) cs sl 532 [(3, .int i), (2, .ref (adM 0)), (1, .ref (adX 0)), (0, .ref b)] [.int w]
  refine k_pop C dL_law_532 rfl ?_
  refine k_goto C 1268 dL_law_533 (by decide) ?_
  refine k_swap ?_
  exact kk
set_option maxHeartbeats 4000000 in
set_option maxRecDepth 100000 in
theorem law_10 {K : Kx} {A : Nat → Prop} {n mc ms cs sl : Nat} (C : Cc K A code "CalledNumbersLaw" n mc ms) (hn : 900 ≤ n) (h8 : cs ≤ mc) (h9 : sl ≤ ms) {b L k : Nat} {xs : Nat → Int32} {i : Int32} {adX adM : Nat → Nat} (S : Sx K A b L xs) (h1 : Ix (i + 1) L (6 * k + 1)) (h2 : Ix (i + 2) L (6 * k + 2)) (h3 : Ix (i + 3) L (6 * k + 3)) (h4 : Ix (i + 4) L (6 * k + 4)) (h5 : Ix (i + 5) L (6 * k + 5)) (hJX : mJ LX adX) (hJM : mJ LM adM) {σ μ τ ν : mS} {v : Int32} {w : Int32} (hx : X10_player σ (xs (6 * k + 1)) (xs (6 * k + 2)) = some (v, τ)) (hm : X11_player μ (xs (6 * k + 1)) (xs (6 * k + 2)) = some (w, ν)) (kk : Wc K A (mwo LX adX (kcy K) τ ++ mwo LM adM (kcy K) ν) cs sl 1268 [(3, .int i), (2, .ref (adM 0)), (1, .ref (adX 0)), (0, .ref b)] []) : Wc K A (mwo LX adX (kcy K) σ ++ mwo LM adM (kcy K) μ) cs sl 536 [(3, .int i), (2, .ref (adM 0)), (1, .ref (adX 0)), (0, .ref b)] [] := by
  refine k_aload_n C 2 dL_law_536 rfl ?_
  refine k_aload_n C 3 dL_law_537 rfl ?_
  refine k_iload_n C 0 dL_law_538 rfl ?_
  refine k_iconst (v := 1) C dL_law_539 rfl ?_
  refine k_iadd C dL_law_540 ?_
  refine k_sld C S h1 dL_law_541 ?_
  refine k_aload_n C 3 dL_law_542 rfl ?_
  refine k_iload_n C 0 dL_law_543 rfl ?_
  refine k_iconst (v := 2) C dL_law_544 rfl ?_
  refine k_iadd C dL_law_545 ?_
  refine k_sld C S h2 dL_law_546 ?_
  refine k_callL (ar := 2) (q := (RX10, TX10, 18)) (rest := []) C hJX (c_X10_player hJX hx) (iX 0 (by decide)) rfl rfl hy_X10_player ⟨tw386, tw387, tw388, tw63, tw389⟩ (Nat.lt_of_lt_of_le (by decide) hn) (by decide) h8 h9 rfl rfl (Nat.le_of_ble_eq_true rfl) dL_law_547 ?_
  show Wc K A (mwo LX adX (kcy K) τ ++ mwo LM adM (kcy K) μ) cs sl 550 [(3, .int i), (2, .ref (adM 0)), (1, .ref (adX 0)), (0, .ref b)] [.int v]
  refine k_pop C dL_law_550 rfl ?_
  refine k_aload_n C 1 dL_law_551 rfl ?_
  refine k_aload_n C 3 dL_law_552 rfl ?_
  refine k_iload_n C 0 dL_law_553 rfl ?_
  refine k_iconst (v := 1) C dL_law_554 rfl ?_
  refine k_iadd C dL_law_555 ?_
  refine k_sld C S h1 dL_law_556 ?_
  refine k_aload_n C 3 dL_law_557 rfl ?_
  refine k_iload_n C 0 dL_law_558 rfl ?_
  refine k_iconst (v := 2) C dL_law_559 rfl ?_
  refine k_iadd C dL_law_560 ?_
  refine k_sld C S h2 dL_law_561 ?_
  refine k_swap ?_
  refine k_callL (ar := 2) (q := (RX11, TX11, 22)) (rest := []) C hJM (c_X11_player hJM hm) (iM 0 (by decide)) rfl rfl hy_X11_player ⟨tw920, tw921, tw922, tw75, tw923⟩ (Nat.lt_of_lt_of_le (by decide) hn) (by decide) h8 h9 rfl rfl (Nat.le_of_ble_eq_true rfl) dL_law_562 ?_
  show Wc K A (mwo LM adM (kcy K) ν ++ mwo LX adX (kcy K) τ) cs sl 565 [(3, .int i), (2, .ref (adM 0)), (1, .ref (adX 0)), (0, .ref b)] [.int w]
  refine k_pop C dL_law_565 rfl ?_
  refine k_goto C 1268 dL_law_566 (by decide) ?_
  refine k_swap ?_
  exact kk
set_option maxHeartbeats 4000000 in
set_option maxRecDepth 100000 in
theorem law_11 {K : Kx} {A : Nat → Prop} {n mc ms cs sl : Nat} (C : Cc K A code "CalledNumbersLaw" n mc ms) (hn : 900 ≤ n) (h8 : cs ≤ mc) (h9 : sl ≤ ms) {b L k : Nat} {xs : Nat → Int32} {i : Int32} {adX adM : Nat → Nat} (S : Sx K A b L xs) (h1 : Ix (i + 1) L (6 * k + 1)) (h2 : Ix (i + 2) L (6 * k + 2)) (h3 : Ix (i + 3) L (6 * k + 3)) (h4 : Ix (i + 4) L (6 * k + 4)) (h5 : Ix (i + 5) L (6 * k + 5)) (hJX : mJ LX adX) (hJM : mJ LM adM) {σ μ τ ν : mS} {v : Int32} {w : Int32} (hx : X10_card σ (xs (6 * k + 1)) (xs (6 * k + 2)) = some (v, τ)) (hm : X11_card μ (xs (6 * k + 1)) (xs (6 * k + 2)) = some (w, ν)) (kk : Wc K A (mwo LX adX (kcy K) τ ++ mwo LM adM (kcy K) ν) cs sl 1268 [(3, .int i), (2, .ref (adM 0)), (1, .ref (adX 0)), (0, .ref b)] []) : Wc K A (mwo LX adX (kcy K) σ ++ mwo LM adM (kcy K) μ) cs sl 569 [(3, .int i), (2, .ref (adM 0)), (1, .ref (adX 0)), (0, .ref b)] [] := by
  refine k_aload_n C 2 dL_law_569 rfl ?_
  refine k_aload_n C 3 dL_law_570 rfl ?_
  refine k_iload_n C 0 dL_law_571 rfl ?_
  refine k_iconst (v := 1) C dL_law_572 rfl ?_
  refine k_iadd C dL_law_573 ?_
  refine k_sld C S h1 dL_law_574 ?_
  refine k_aload_n C 3 dL_law_575 rfl ?_
  refine k_iload_n C 0 dL_law_576 rfl ?_
  refine k_iconst (v := 2) C dL_law_577 rfl ?_
  refine k_iadd C dL_law_578 ?_
  refine k_sld C S h2 dL_law_579 ?_
  refine k_callL (ar := 2) (q := (RX10, TX10, 18)) (rest := []) C hJX (c_X10_card hJX hx) (iX 0 (by decide)) rfl rfl hy_X10_card ⟨tw452, tw453, tw454, tw63, tw455⟩ (Nat.lt_of_lt_of_le (by decide) hn) (by decide) h8 h9 rfl rfl (Nat.le_of_ble_eq_true rfl) dL_law_580 ?_
  show Wc K A (mwo LX adX (kcy K) τ ++ mwo LM adM (kcy K) μ) cs sl 583 [(3, .int i), (2, .ref (adM 0)), (1, .ref (adX 0)), (0, .ref b)] [.int v]
  refine k_pop C dL_law_583 rfl ?_
  refine k_aload_n C 1 dL_law_584 rfl ?_
  refine k_aload_n C 3 dL_law_585 rfl ?_
  refine k_iload_n C 0 dL_law_586 rfl ?_
  refine k_iconst (v := 1) C dL_law_587 rfl ?_
  refine k_iadd C dL_law_588 ?_
  refine k_sld C S h1 dL_law_589 ?_
  refine k_aload_n C 3 dL_law_590 rfl ?_
  refine k_iload_n C 0 dL_law_591 rfl ?_
  refine k_iconst (v := 2) C dL_law_592 rfl ?_
  refine k_iadd C dL_law_593 ?_
  refine k_sld C S h2 dL_law_594 ?_
  refine k_swap ?_
  refine k_callL (ar := 2) (q := (RX11, TX11, 22)) (rest := []) C hJM (c_X11_card hJM hm) (iM 0 (by decide)) rfl rfl hy_X11_card ⟨tw945, tw946, tw947, tw75, tw948⟩ (Nat.lt_of_lt_of_le (by decide) hn) (by decide) h8 h9 rfl rfl (Nat.le_of_ble_eq_true rfl) dL_law_595 ?_
  show Wc K A (mwo LM adM (kcy K) ν ++ mwo LX adX (kcy K) τ) cs sl 598 [(3, .int i), (2, .ref (adM 0)), (1, .ref (adX 0)), (0, .ref b)] [.int w]
  refine k_pop C dL_law_598 rfl ?_
  refine k_goto C 1268 dL_law_599 (by decide) ?_
  refine k_swap ?_
  exact kk
set_option maxHeartbeats 4000000 in
set_option maxRecDepth 100000 in
theorem law_12 {K : Kx} {A : Nat → Prop} {n mc ms cs sl : Nat} (C : Cc K A code "CalledNumbersLaw" n mc ms) (hn : 900 ≤ n) (h8 : cs ≤ mc) (h9 : sl ≤ ms) {b L k : Nat} {xs : Nat → Int32} {i : Int32} {adX adM : Nat → Nat} (S : Sx K A b L xs) (h1 : Ix (i + 1) L (6 * k + 1)) (h2 : Ix (i + 2) L (6 * k + 2)) (h3 : Ix (i + 3) L (6 * k + 3)) (h4 : Ix (i + 4) L (6 * k + 4)) (h5 : Ix (i + 5) L (6 * k + 5)) (hJX : mJ LX adX) (hJM : mJ LM adM) {σ μ τ ν : mS} {v : Int32} {w : Int32} (hx : X10_mark σ (xs (6 * k + 1)) (xs (6 * k + 2)) = some (v, τ)) (hm : X11_mark μ (xs (6 * k + 1)) (xs (6 * k + 2)) = some (w, ν)) (kk : Wc K A (mwo LX adX (kcy K) τ ++ mwo LM adM (kcy K) ν) cs sl 1268 [(3, .int i), (2, .ref (adM 0)), (1, .ref (adX 0)), (0, .ref b)] []) : Wc K A (mwo LX adX (kcy K) σ ++ mwo LM adM (kcy K) μ) cs sl 602 [(3, .int i), (2, .ref (adM 0)), (1, .ref (adX 0)), (0, .ref b)] [] := by
  refine k_aload_n C 2 dL_law_602 rfl ?_
  refine k_aload_n C 3 dL_law_603 rfl ?_
  refine k_iload_n C 0 dL_law_604 rfl ?_
  refine k_iconst (v := 1) C dL_law_605 rfl ?_
  refine k_iadd C dL_law_606 ?_
  refine k_sld C S h1 dL_law_607 ?_
  refine k_aload_n C 3 dL_law_608 rfl ?_
  refine k_iload_n C 0 dL_law_609 rfl ?_
  refine k_iconst (v := 2) C dL_law_610 rfl ?_
  refine k_iadd C dL_law_611 ?_
  refine k_sld C S h2 dL_law_612 ?_
  refine k_callL (ar := 2) (q := (RX10, TX10, 18)) (rest := []) C hJX (c_X10_mark hJX hx) (iX 0 (by decide)) rfl rfl hy_X10_mark ⟨tw460, tw461, tw462, tw63, tw463⟩ (Nat.lt_of_lt_of_le (by decide) hn) (by decide) h8 h9 rfl rfl (Nat.le_of_ble_eq_true rfl) dL_law_613 ?_
  show Wc K A (mwo LX adX (kcy K) τ ++ mwo LM adM (kcy K) μ) cs sl 616 [(3, .int i), (2, .ref (adM 0)), (1, .ref (adX 0)), (0, .ref b)] [.int v]
  refine k_pop C dL_law_616 rfl ?_
  refine k_aload_n C 1 dL_law_617 rfl ?_
  refine k_aload_n C 3 dL_law_618 rfl ?_
  refine k_iload_n C 0 dL_law_619 rfl ?_
  refine k_iconst (v := 1) C dL_law_620 rfl ?_
  refine k_iadd C dL_law_621 ?_
  refine k_sld C S h1 dL_law_622 ?_
  refine k_aload_n C 3 dL_law_623 rfl ?_
  refine k_iload_n C 0 dL_law_624 rfl ?_
  refine k_iconst (v := 2) C dL_law_625 rfl ?_
  refine k_iadd C dL_law_626 ?_
  refine k_sld C S h2 dL_law_627 ?_
  refine k_swap ?_
  refine k_callL (ar := 2) (q := (RX11, TX11, 22)) (rest := []) C hJM (c_X11_mark hJM hm) (iM 0 (by decide)) rfl rfl hy_X11_mark ⟨tw949, tw950, tw951, tw75, tw952⟩ (Nat.lt_of_lt_of_le (by decide) hn) (by decide) h8 h9 rfl rfl (Nat.le_of_ble_eq_true rfl) dL_law_628 ?_
  show Wc K A (mwo LM adM (kcy K) ν ++ mwo LX adX (kcy K) τ) cs sl 631 [(3, .int i), (2, .ref (adM 0)), (1, .ref (adX 0)), (0, .ref b)] [.int w]
  refine k_pop C dL_law_631 rfl ?_
  refine k_goto C 1268 dL_law_632 (by decide) ?_
  refine k_swap ?_
  exact kk
set_option maxHeartbeats 4000000 in
set_option maxRecDepth 100000 in
theorem law_13 {K : Kx} {A : Nat → Prop} {n mc ms cs sl : Nat} (C : Cc K A code "CalledNumbersLaw" n mc ms) (hn : 900 ≤ n) (h8 : cs ≤ mc) (h9 : sl ≤ ms) {b L k : Nat} {xs : Nat → Int32} {i : Int32} {adX adM : Nat → Nat} (S : Sx K A b L xs) (h1 : Ix (i + 1) L (6 * k + 1)) (h2 : Ix (i + 2) L (6 * k + 2)) (h3 : Ix (i + 3) L (6 * k + 3)) (h4 : Ix (i + 4) L (6 * k + 4)) (h5 : Ix (i + 5) L (6 * k + 5)) (hJX : mJ LX adX) (hJM : mJ LM adM) {σ μ τ ν : mS} {v : Int32} {w : Int32} (hx : X10_call σ (xs (6 * k + 1)) = some (v, τ)) (hm : X11_call μ (xs (6 * k + 1)) = some (w, ν)) (kk : Wc K A (mwo LX adX (kcy K) τ ++ mwo LM adM (kcy K) ν) cs sl 1268 [(3, .int i), (2, .ref (adM 0)), (1, .ref (adX 0)), (0, .ref b)] []) : Wc K A (mwo LX adX (kcy K) σ ++ mwo LM adM (kcy K) μ) cs sl 635 [(3, .int i), (2, .ref (adM 0)), (1, .ref (adX 0)), (0, .ref b)] [] := by
  refine k_aload_n C 2 dL_law_635 rfl ?_
  refine k_aload_n C 3 dL_law_636 rfl ?_
  refine k_iload_n C 0 dL_law_637 rfl ?_
  refine k_iconst (v := 1) C dL_law_638 rfl ?_
  refine k_iadd C dL_law_639 ?_
  refine k_sld C S h1 dL_law_640 ?_
  refine k_callL (ar := 1) (q := (RX10, TX10, 18)) (rest := []) C hJX (c_X10_call hJX hx) (iX 0 (by decide)) rfl rfl hy_X10_call ⟨tw487, tw488, tw489, tw63, tw490⟩ (Nat.lt_of_lt_of_le (by decide) hn) (by decide) h8 h9 rfl rfl (Nat.le_of_ble_eq_true rfl) dL_law_641 ?_
  show Wc K A (mwo LX adX (kcy K) τ ++ mwo LM adM (kcy K) μ) cs sl 644 [(3, .int i), (2, .ref (adM 0)), (1, .ref (adX 0)), (0, .ref b)] [.int v]
  refine k_pop C dL_law_644 rfl ?_
  refine k_aload_n C 1 dL_law_645 rfl ?_
  refine k_aload_n C 3 dL_law_646 rfl ?_
  refine k_iload_n C 0 dL_law_647 rfl ?_
  refine k_iconst (v := 1) C dL_law_648 rfl ?_
  refine k_iadd C dL_law_649 ?_
  refine k_sld C S h1 dL_law_650 ?_
  refine k_swap ?_
  refine k_callL (ar := 1) (q := (RX11, TX11, 22)) (rest := []) C hJM (c_X11_call hJM hm) (iM 0 (by decide)) rfl rfl hy_X11_call ⟨tw960, tw961, tw962, tw75, tw963⟩ (Nat.lt_of_lt_of_le (by decide) hn) (by decide) h8 h9 rfl rfl (Nat.le_of_ble_eq_true rfl) dL_law_651 ?_
  show Wc K A (mwo LM adM (kcy K) ν ++ mwo LX adX (kcy K) τ) cs sl 654 [(3, .int i), (2, .ref (adM 0)), (1, .ref (adX 0)), (0, .ref b)] [.int w]
  refine k_pop C dL_law_654 rfl ?_
  refine k_goto C 1268 dL_law_655 (by decide) ?_
  refine k_swap ?_
  exact kk
set_option maxHeartbeats 4000000 in
set_option maxRecDepth 100000 in
theorem law_14 {K : Kx} {A : Nat → Prop} {n mc ms cs sl : Nat} (C : Cc K A code "CalledNumbersLaw" n mc ms) (hn : 900 ≤ n) (h8 : cs ≤ mc) (h9 : sl ≤ ms) {b L k : Nat} {xs : Nat → Int32} {i : Int32} {adX adM : Nat → Nat} (S : Sx K A b L xs) (h1 : Ix (i + 1) L (6 * k + 1)) (h2 : Ix (i + 2) L (6 * k + 2)) (h3 : Ix (i + 3) L (6 * k + 3)) (h4 : Ix (i + 4) L (6 * k + 4)) (h5 : Ix (i + 5) L (6 * k + 5)) (hJX : mJ LX adX) (hJM : mJ LM adM) {σ μ τ ν : mS} {v : Int32} {w : Int32} (hx : X10_rub σ (xs (6 * k + 1)) (xs (6 * k + 2)) = some (v, τ)) (hm : X11_rub μ (xs (6 * k + 1)) (xs (6 * k + 2)) = some (w, ν)) (kk : Wc K A (mwo LX adX (kcy K) τ ++ mwo LM adM (kcy K) ν) cs sl 1268 [(3, .int i), (2, .ref (adM 0)), (1, .ref (adX 0)), (0, .ref b)] []) : Wc K A (mwo LX adX (kcy K) σ ++ mwo LM adM (kcy K) μ) cs sl 658 [(3, .int i), (2, .ref (adM 0)), (1, .ref (adX 0)), (0, .ref b)] [] := by
  refine k_aload_n C 2 dL_law_658 rfl ?_
  refine k_aload_n C 3 dL_law_659 rfl ?_
  refine k_iload_n C 0 dL_law_660 rfl ?_
  refine k_iconst (v := 1) C dL_law_661 rfl ?_
  refine k_iadd C dL_law_662 ?_
  refine k_sld C S h1 dL_law_663 ?_
  refine k_aload_n C 3 dL_law_664 rfl ?_
  refine k_iload_n C 0 dL_law_665 rfl ?_
  refine k_iconst (v := 2) C dL_law_666 rfl ?_
  refine k_iadd C dL_law_667 ?_
  refine k_sld C S h2 dL_law_668 ?_
  refine k_callL (ar := 2) (q := (RX10, TX10, 18)) (rest := []) C hJX (c_X10_rub hJX hx) (iX 0 (by decide)) rfl rfl hy_X10_rub ⟨tw534, tw535, tw536, tw63, tw537⟩ (Nat.lt_of_lt_of_le (by decide) hn) (by decide) h8 h9 rfl rfl (Nat.le_of_ble_eq_true rfl) dL_law_669 ?_
  show Wc K A (mwo LX adX (kcy K) τ ++ mwo LM adM (kcy K) μ) cs sl 672 [(3, .int i), (2, .ref (adM 0)), (1, .ref (adX 0)), (0, .ref b)] [.int v]
  refine k_pop C dL_law_672 rfl ?_
  refine k_aload_n C 1 dL_law_673 rfl ?_
  refine k_aload_n C 3 dL_law_674 rfl ?_
  refine k_iload_n C 0 dL_law_675 rfl ?_
  refine k_iconst (v := 1) C dL_law_676 rfl ?_
  refine k_iadd C dL_law_677 ?_
  refine k_sld C S h1 dL_law_678 ?_
  refine k_aload_n C 3 dL_law_679 rfl ?_
  refine k_iload_n C 0 dL_law_680 rfl ?_
  refine k_iconst (v := 2) C dL_law_681 rfl ?_
  refine k_iadd C dL_law_682 ?_
  refine k_sld C S h2 dL_law_683 ?_
  refine k_swap ?_
  refine k_callL (ar := 2) (q := (RX11, TX11, 22)) (rest := []) C hJM (c_X11_rub hJM hm) (iM 0 (by decide)) rfl rfl hy_X11_rub ⟨tw979, tw980, tw981, tw75, tw982⟩ (Nat.lt_of_lt_of_le (by decide) hn) (by decide) h8 h9 rfl rfl (Nat.le_of_ble_eq_true rfl) dL_law_684 ?_
  show Wc K A (mwo LM adM (kcy K) ν ++ mwo LX adX (kcy K) τ) cs sl 687 [(3, .int i), (2, .ref (adM 0)), (1, .ref (adX 0)), (0, .ref b)] [.int w]
  refine k_pop C dL_law_687 rfl ?_
  refine k_goto C 1268 dL_law_688 (by decide) ?_
  refine k_swap ?_
  exact kk
set_option maxHeartbeats 4000000 in
set_option maxRecDepth 100000 in
theorem law_15 {K : Kx} {A : Nat → Prop} {n mc ms cs sl : Nat} (C : Cc K A code "CalledNumbersLaw" n mc ms) (hn : 900 ≤ n) (h8 : cs ≤ mc) (h9 : sl ≤ ms) {b L k : Nat} {xs : Nat → Int32} {i : Int32} {adX adM : Nat → Nat} (S : Sx K A b L xs) (h1 : Ix (i + 1) L (6 * k + 1)) (h2 : Ix (i + 2) L (6 * k + 2)) (h3 : Ix (i + 3) L (6 * k + 3)) (h4 : Ix (i + 4) L (6 * k + 4)) (h5 : Ix (i + 5) L (6 * k + 5)) (hJX : mJ LX adX) (hJM : mJ LM adM) {σ μ τ ν : mS} {v : Int32} {w : Int32} (hx : X10_undo σ (xs (6 * k + 1)) = some (v, τ)) (hm : X11_undo μ (xs (6 * k + 1)) = some (w, ν)) (kk : Wc K A (mwo LX adX (kcy K) τ ++ mwo LM adM (kcy K) ν) cs sl 1268 [(3, .int i), (2, .ref (adM 0)), (1, .ref (adX 0)), (0, .ref b)] []) : Wc K A (mwo LX adX (kcy K) σ ++ mwo LM adM (kcy K) μ) cs sl 691 [(3, .int i), (2, .ref (adM 0)), (1, .ref (adX 0)), (0, .ref b)] [] := by
  refine k_aload_n C 2 dL_law_691 rfl ?_
  refine k_aload_n C 3 dL_law_692 rfl ?_
  refine k_iload_n C 0 dL_law_693 rfl ?_
  refine k_iconst (v := 1) C dL_law_694 rfl ?_
  refine k_iadd C dL_law_695 ?_
  refine k_sld C S h1 dL_law_696 ?_
  refine k_callL (ar := 1) (q := (RX10, TX10, 18)) (rest := []) C hJX (c_X10_undo hJX hx) (iX 0 (by decide)) rfl rfl hy_X10_undo ⟨tw546, tw547, tw548, tw63, tw549⟩ (Nat.lt_of_lt_of_le (by decide) hn) (by decide) h8 h9 rfl rfl (Nat.le_of_ble_eq_true rfl) dL_law_697 ?_
  show Wc K A (mwo LX adX (kcy K) τ ++ mwo LM adM (kcy K) μ) cs sl 700 [(3, .int i), (2, .ref (adM 0)), (1, .ref (adX 0)), (0, .ref b)] [.int v]
  refine k_pop C dL_law_700 rfl ?_
  refine k_aload_n C 1 dL_law_701 rfl ?_
  refine k_aload_n C 3 dL_law_702 rfl ?_
  refine k_iload_n C 0 dL_law_703 rfl ?_
  refine k_iconst (v := 1) C dL_law_704 rfl ?_
  refine k_iadd C dL_law_705 ?_
  refine k_sld C S h1 dL_law_706 ?_
  refine k_swap ?_
  refine k_callL (ar := 1) (q := (RX11, TX11, 22)) (rest := []) C hJM (c_X11_undo hJM hm) (iM 0 (by decide)) rfl rfl hy_X11_undo ⟨tw983, tw984, tw985, tw75, tw986⟩ (Nat.lt_of_lt_of_le (by decide) hn) (by decide) h8 h9 rfl rfl (Nat.le_of_ble_eq_true rfl) dL_law_707 ?_
  show Wc K A (mwo LM adM (kcy K) ν ++ mwo LX adX (kcy K) τ) cs sl 710 [(3, .int i), (2, .ref (adM 0)), (1, .ref (adX 0)), (0, .ref b)] [.int w]
  refine k_pop C dL_law_710 rfl ?_
  refine k_goto C 1268 dL_law_711 (by decide) ?_
  refine k_swap ?_
  exact kk
set_option maxHeartbeats 4000000 in
set_option maxRecDepth 100000 in
theorem law_16 {K : Kx} {A : Nat → Prop} {n mc ms cs sl : Nat} (C : Cc K A code "CalledNumbersLaw" n mc ms) (hn : 900 ≤ n) (h8 : cs ≤ mc) (h9 : sl ≤ ms) {b L k : Nat} {xs : Nat → Int32} {i : Int32} {adX adM : Nat → Nat} (S : Sx K A b L xs) (h1 : Ix (i + 1) L (6 * k + 1)) (h2 : Ix (i + 2) L (6 * k + 2)) (h3 : Ix (i + 3) L (6 * k + 3)) (h4 : Ix (i + 4) L (6 * k + 4)) (h5 : Ix (i + 5) L (6 * k + 5)) (hJX : mJ LX adX) (hJM : mJ LM adM) {σ μ τ ν : mS} {v : Int32} {w : Int32} (hx : X10_keep σ (xs (6 * k + 1)) = some (v, τ)) (hm : X11_keep μ (xs (6 * k + 1)) = some (w, ν)) (kk : Wc K A (mwo LX adX (kcy K) τ ++ mwo LM adM (kcy K) ν) cs sl 1268 [(3, .int i), (2, .ref (adM 0)), (1, .ref (adX 0)), (0, .ref b)] []) : Wc K A (mwo LX adX (kcy K) σ ++ mwo LM adM (kcy K) μ) cs sl 714 [(3, .int i), (2, .ref (adM 0)), (1, .ref (adX 0)), (0, .ref b)] [] := by
  refine k_aload_n C 2 dL_law_714 rfl ?_
  refine k_aload_n C 3 dL_law_715 rfl ?_
  refine k_iload_n C 0 dL_law_716 rfl ?_
  refine k_iconst (v := 1) C dL_law_717 rfl ?_
  refine k_iadd C dL_law_718 ?_
  refine k_sld C S h1 dL_law_719 ?_
  refine k_callL (ar := 1) (q := (RX10, TX10, 18)) (rest := []) C hJX (c_X10_keep hJX hx) (iX 0 (by decide)) rfl rfl hy_X10_keep ⟨tw554, tw555, tw556, tw63, tw557⟩ (Nat.lt_of_lt_of_le (by decide) hn) (by decide) h8 h9 rfl rfl (Nat.le_of_ble_eq_true rfl) dL_law_720 ?_
  show Wc K A (mwo LX adX (kcy K) τ ++ mwo LM adM (kcy K) μ) cs sl 723 [(3, .int i), (2, .ref (adM 0)), (1, .ref (adX 0)), (0, .ref b)] [.int v]
  refine k_pop C dL_law_723 rfl ?_
  refine k_aload_n C 1 dL_law_724 rfl ?_
  refine k_aload_n C 3 dL_law_725 rfl ?_
  refine k_iload_n C 0 dL_law_726 rfl ?_
  refine k_iconst (v := 1) C dL_law_727 rfl ?_
  refine k_iadd C dL_law_728 ?_
  refine k_sld C S h1 dL_law_729 ?_
  refine k_swap ?_
  refine k_callL (ar := 1) (q := (RX11, TX11, 22)) (rest := []) C hJM (c_X11_keep hJM hm) (iM 0 (by decide)) rfl rfl hy_X11_keep ⟨tw987, tw988, tw989, tw75, tw990⟩ (Nat.lt_of_lt_of_le (by decide) hn) (by decide) h8 h9 rfl rfl (Nat.le_of_ble_eq_true rfl) dL_law_730 ?_
  show Wc K A (mwo LM adM (kcy K) ν ++ mwo LX adX (kcy K) τ) cs sl 733 [(3, .int i), (2, .ref (adM 0)), (1, .ref (adX 0)), (0, .ref b)] [.int w]
  refine k_pop C dL_law_733 rfl ?_
  refine k_goto C 1268 dL_law_734 (by decide) ?_
  refine k_swap ?_
  exact kk
set_option maxHeartbeats 4000000 in
set_option maxRecDepth 100000 in
theorem law_17 {K : Kx} {A : Nat → Prop} {n mc ms cs sl : Nat} (C : Cc K A code "CalledNumbersLaw" n mc ms) (hn : 900 ≤ n) (h8 : cs ≤ mc) (h9 : sl ≤ ms) {b L k : Nat} {xs : Nat → Int32} {i : Int32} {adX adM : Nat → Nat} (S : Sx K A b L xs) (h1 : Ix (i + 1) L (6 * k + 1)) (h2 : Ix (i + 2) L (6 * k + 2)) (h3 : Ix (i + 3) L (6 * k + 3)) (h4 : Ix (i + 4) L (6 * k + 4)) (h5 : Ix (i + 5) L (6 * k + 5)) (hJX : mJ LX adX) (hJM : mJ LM adM) {σ μ τ ν : mS} {v : Int32} {w : Int32} (hx : X10_on σ (xs (6 * k + 1)) = some (v, τ)) (hm : X11_on μ (xs (6 * k + 1)) = some (w, ν)) (kk : Wc K A (mwo LX adX (kcy K) τ ++ mwo LM adM (kcy K) ν) cs sl 1268 [(3, .int i), (2, .ref (adM 0)), (1, .ref (adX 0)), (0, .ref b)] []) : Wc K A (mwo LX adX (kcy K) σ ++ mwo LM adM (kcy K) μ) cs sl 737 [(3, .int i), (2, .ref (adM 0)), (1, .ref (adX 0)), (0, .ref b)] [] := by
  refine k_aload_n C 2 dL_law_737 rfl ?_
  refine k_aload_n C 3 dL_law_738 rfl ?_
  refine k_iload_n C 0 dL_law_739 rfl ?_
  refine k_iconst (v := 1) C dL_law_740 rfl ?_
  refine k_iadd C dL_law_741 ?_
  refine k_sld C S h1 dL_law_742 ?_
  refine k_callL (ar := 1) (q := (RX10, TX10, 18)) (rest := []) C hJX (c_X10_on hJX hx) (iX 0 (by decide)) rfl rfl hy_X10_on ⟨tw566, tw567, tw568, tw63, tw569⟩ (Nat.lt_of_lt_of_le (by decide) hn) (by decide) h8 h9 rfl rfl (Nat.le_of_ble_eq_true rfl) dL_law_743 ?_
  show Wc K A (mwo LX adX (kcy K) τ ++ mwo LM adM (kcy K) μ) cs sl 746 [(3, .int i), (2, .ref (adM 0)), (1, .ref (adX 0)), (0, .ref b)] [.int v]
  refine k_pop C dL_law_746 rfl ?_
  refine k_aload_n C 1 dL_law_747 rfl ?_
  refine k_aload_n C 3 dL_law_748 rfl ?_
  refine k_iload_n C 0 dL_law_749 rfl ?_
  refine k_iconst (v := 1) C dL_law_750 rfl ?_
  refine k_iadd C dL_law_751 ?_
  refine k_sld C S h1 dL_law_752 ?_
  refine k_swap ?_
  refine k_callL (ar := 1) (q := (RX11, TX11, 22)) (rest := []) C hJM (c_X11_on hJM hm) (iM 0 (by decide)) rfl rfl hy_X11_on ⟨tw992, tw993, tw994, tw75, tw995⟩ (Nat.lt_of_lt_of_le (by decide) hn) (by decide) h8 h9 rfl rfl (Nat.le_of_ble_eq_true rfl) dL_law_753 ?_
  show Wc K A (mwo LM adM (kcy K) ν ++ mwo LX adX (kcy K) τ) cs sl 756 [(3, .int i), (2, .ref (adM 0)), (1, .ref (adX 0)), (0, .ref b)] [.int w]
  refine k_pop C dL_law_756 rfl ?_
  refine k_goto C 1268 dL_law_757 (by decide) ?_
  refine k_swap ?_
  exact kk
set_option maxHeartbeats 4000000 in
set_option maxRecDepth 100000 in
theorem law_18 {K : Kx} {A : Nat → Prop} {n mc ms cs sl : Nat} (C : Cc K A code "CalledNumbersLaw" n mc ms) (hn : 900 ≤ n) (h8 : cs ≤ mc) (h9 : sl ≤ ms) {b L k : Nat} {xs : Nat → Int32} {i : Int32} {adX adM : Nat → Nat} (S : Sx K A b L xs) (h1 : Ix (i + 1) L (6 * k + 1)) (h2 : Ix (i + 2) L (6 * k + 2)) (h3 : Ix (i + 3) L (6 * k + 3)) (h4 : Ix (i + 4) L (6 * k + 4)) (h5 : Ix (i + 5) L (6 * k + 5)) (hJX : mJ LX adX) (hJM : mJ LM adM) {σ μ : mS} {v : Int32} {w : Int32} (hx : X10_hears σ (xs (6 * k + 1)) (xs (6 * k + 2)) (xs (6 * k + 3)) (xs (6 * k + 4)) = some v) (hm : X11_hears μ (xs (6 * k + 1)) (xs (6 * k + 2)) (xs (6 * k + 3)) (xs (6 * k + 4)) = some w) (kk : Wc K A (mwo LX adX (kcy K) σ ++ mwo LM adM (kcy K) μ) cs sl 1268 [(3, .int i), (2, .ref (adM 0)), (1, .ref (adX 0)), (0, .ref b)] []) : Wc K A (mwo LX adX (kcy K) σ ++ mwo LM adM (kcy K) μ) cs sl 760 [(3, .int i), (2, .ref (adM 0)), (1, .ref (adX 0)), (0, .ref b)] [] := by
  refine k_aload_n C 2 dL_law_760 rfl ?_
  refine k_aload_n C 3 dL_law_761 rfl ?_
  refine k_iload_n C 0 dL_law_762 rfl ?_
  refine k_iconst (v := 1) C dL_law_763 rfl ?_
  refine k_iadd C dL_law_764 ?_
  refine k_sld C S h1 dL_law_765 ?_
  refine k_aload_n C 3 dL_law_766 rfl ?_
  refine k_iload_n C 0 dL_law_767 rfl ?_
  refine k_iconst (v := 2) C dL_law_768 rfl ?_
  refine k_iadd C dL_law_769 ?_
  refine k_sld C S h2 dL_law_770 ?_
  refine k_aload_n C 3 dL_law_771 rfl ?_
  refine k_iload_n C 0 dL_law_772 rfl ?_
  refine k_iconst (v := 3) C dL_law_773 rfl ?_
  refine k_iadd C dL_law_774 ?_
  refine k_sld C S h3 dL_law_775 ?_
  refine k_aload_n C 3 dL_law_776 rfl ?_
  refine k_iload_n C 0 dL_law_777 rfl ?_
  refine k_iconst (v := 4) C dL_law_778 rfl ?_
  refine k_iadd C dL_law_779 ?_
  refine k_sld C S h4 dL_law_780 ?_
  refine k_callL (ar := 4) (q := (RX10, TX10, 18)) (rest := []) C hJX (c_X10_hears hJX hx) (iX 0 (by decide)) rfl rfl hy_X10_hears ⟨tw570, tw571, tw572, tw63, tw573⟩ (Nat.lt_of_lt_of_le (by decide) hn) (by decide) h8 h9 rfl rfl (Nat.le_of_ble_eq_true rfl) dL_law_781 ?_
  show Wc K A (mwo LX adX (kcy K) σ ++ mwo LM adM (kcy K) μ) cs sl 784 [(3, .int i), (2, .ref (adM 0)), (1, .ref (adX 0)), (0, .ref b)] [.int v]
  refine k_pop C dL_law_784 rfl ?_
  refine k_aload_n C 1 dL_law_785 rfl ?_
  refine k_aload_n C 3 dL_law_786 rfl ?_
  refine k_iload_n C 0 dL_law_787 rfl ?_
  refine k_iconst (v := 1) C dL_law_788 rfl ?_
  refine k_iadd C dL_law_789 ?_
  refine k_sld C S h1 dL_law_790 ?_
  refine k_aload_n C 3 dL_law_791 rfl ?_
  refine k_iload_n C 0 dL_law_792 rfl ?_
  refine k_iconst (v := 2) C dL_law_793 rfl ?_
  refine k_iadd C dL_law_794 ?_
  refine k_sld C S h2 dL_law_795 ?_
  refine k_aload_n C 3 dL_law_796 rfl ?_
  refine k_iload_n C 0 dL_law_797 rfl ?_
  refine k_iconst (v := 3) C dL_law_798 rfl ?_
  refine k_iadd C dL_law_799 ?_
  refine k_sld C S h3 dL_law_800 ?_
  refine k_aload_n C 3 dL_law_801 rfl ?_
  refine k_iload_n C 0 dL_law_802 rfl ?_
  refine k_iconst (v := 4) C dL_law_803 rfl ?_
  refine k_iadd C dL_law_804 ?_
  refine k_sld C S h4 dL_law_805 ?_
  refine k_swap ?_
  refine k_callL (ar := 4) (q := (RX11, TX11, 22)) (rest := []) C hJM (c_X11_hears hJM hm) (iM 0 (by decide)) rfl rfl hy_X11_hears ⟨tw996, tw997, tw998, tw75, tw999⟩ (Nat.lt_of_lt_of_le (by decide) hn) (by decide) h8 h9 rfl rfl (Nat.le_of_ble_eq_true rfl) dL_law_806 ?_
  show Wc K A (mwo LM adM (kcy K) μ ++ mwo LX adX (kcy K) σ) cs sl 809 [(3, .int i), (2, .ref (adM 0)), (1, .ref (adX 0)), (0, .ref b)] [.int w]
  refine k_pop C dL_law_809 rfl ?_
  refine k_goto C 1268 dL_law_810 (by decide) ?_
  refine k_swap ?_
  exact kk
set_option maxHeartbeats 4000000 in
set_option maxRecDepth 100000 in
theorem law_19 {K : Kx} {A : Nat → Prop} {n mc ms cs sl : Nat} (C : Cc K A code "CalledNumbersLaw" n mc ms) (hn : 900 ≤ n) (h8 : cs ≤ mc) (h9 : sl ≤ ms) {b L k : Nat} {xs : Nat → Int32} {i : Int32} {adX adM : Nat → Nat} (S : Sx K A b L xs) (h1 : Ix (i + 1) L (6 * k + 1)) (h2 : Ix (i + 2) L (6 * k + 2)) (h3 : Ix (i + 3) L (6 * k + 3)) (h4 : Ix (i + 4) L (6 * k + 4)) (h5 : Ix (i + 5) L (6 * k + 5)) (hJX : mJ LX adX) (hJM : mJ LM adM) {σ μ τ ν : mS} {v : Int32} {w : Int32} (hx : X10_run σ (xs (6 * k + 1)) = some (v, τ)) (hm : X11_run μ (xs (6 * k + 1)) = some (w, ν)) (kk : Wc K A (mwo LX adX (kcy K) τ ++ mwo LM adM (kcy K) ν) cs sl 1268 [(3, .int i), (2, .ref (adM 0)), (1, .ref (adX 0)), (0, .ref b)] []) : Wc K A (mwo LX adX (kcy K) σ ++ mwo LM adM (kcy K) μ) cs sl 813 [(3, .int i), (2, .ref (adM 0)), (1, .ref (adX 0)), (0, .ref b)] [] := by
  refine k_aload_n C 2 dL_law_813 rfl ?_
  refine k_aload_n C 3 dL_law_814 rfl ?_
  refine k_iload_n C 0 dL_law_815 rfl ?_
  refine k_iconst (v := 1) C dL_law_816 rfl ?_
  refine k_iadd C dL_law_817 ?_
  refine k_sld C S h1 dL_law_818 ?_
  refine k_callL (ar := 1) (q := (RX10, TX10, 18)) (rest := []) C hJX (c_X10_run hJX hx) (iX 0 (by decide)) rfl rfl hy_X10_run ⟨tw575, tw576, tw577, tw63, tw578⟩ (Nat.lt_of_lt_of_le (by decide) hn) (by decide) h8 h9 rfl rfl (Nat.le_of_ble_eq_true rfl) dL_law_819 ?_
  show Wc K A (mwo LX adX (kcy K) τ ++ mwo LM adM (kcy K) μ) cs sl 822 [(3, .int i), (2, .ref (adM 0)), (1, .ref (adX 0)), (0, .ref b)] [.int v]
  refine k_pop C dL_law_822 rfl ?_
  refine k_aload_n C 1 dL_law_823 rfl ?_
  refine k_aload_n C 3 dL_law_824 rfl ?_
  refine k_iload_n C 0 dL_law_825 rfl ?_
  refine k_iconst (v := 1) C dL_law_826 rfl ?_
  refine k_iadd C dL_law_827 ?_
  refine k_sld C S h1 dL_law_828 ?_
  refine k_swap ?_
  refine k_callL (ar := 1) (q := (RX11, TX11, 22)) (rest := []) C hJM (c_X11_run hJM hm) (iM 0 (by decide)) rfl rfl hy_X11_run ⟨tw1001, tw1002, tw1003, tw75, tw1004⟩ (Nat.lt_of_lt_of_le (by decide) hn) (by decide) h8 h9 rfl rfl (Nat.le_of_ble_eq_true rfl) dL_law_829 ?_
  show Wc K A (mwo LM adM (kcy K) ν ++ mwo LX adX (kcy K) τ) cs sl 832 [(3, .int i), (2, .ref (adM 0)), (1, .ref (adX 0)), (0, .ref b)] [.int w]
  refine k_pop C dL_law_832 rfl ?_
  refine k_goto C 1268 dL_law_833 (by decide) ?_
  refine k_swap ?_
  exact kk
set_option maxHeartbeats 4000000 in
set_option maxRecDepth 100000 in
theorem law_20 {K : Kx} {A : Nat → Prop} {n mc ms cs sl : Nat} (C : Cc K A code "CalledNumbersLaw" n mc ms) (hn : 900 ≤ n) (h8 : cs ≤ mc) (h9 : sl ≤ ms) {b L k : Nat} {xs : Nat → Int32} {i : Int32} {adX adM : Nat → Nat} (S : Sx K A b L xs) (h1 : Ix (i + 1) L (6 * k + 1)) (h2 : Ix (i + 2) L (6 * k + 2)) (h3 : Ix (i + 3) L (6 * k + 3)) (h4 : Ix (i + 4) L (6 * k + 4)) (h5 : Ix (i + 5) L (6 * k + 5)) (hJX : mJ LX adX) (hJM : mJ LM adM) {σ μ τ ν : mS} {v : Int32} {w : Int32} (hx : X10_safe σ = some (v, τ)) (hm : X11_safe μ = some (w, ν)) (kk : Wc K A (mwo LX adX (kcy K) τ ++ mwo LM adM (kcy K) ν) cs sl 1268 [(3, .int i), (2, .ref (adM 0)), (1, .ref (adX 0)), (0, .ref b)] []) : Wc K A (mwo LX adX (kcy K) σ ++ mwo LM adM (kcy K) μ) cs sl 836 [(3, .int i), (2, .ref (adM 0)), (1, .ref (adX 0)), (0, .ref b)] [] := by
  refine k_aload_n C 2 dL_law_836 rfl ?_
  refine k_callL (ar := 0) (q := (RX10, TX10, 18)) (rest := []) C hJX (c_X10_safe hJX hx) (iX 0 (by decide)) rfl rfl hy_X10_safe ⟨tw583, tw584, tw585, tw63, tw586⟩ (Nat.lt_of_lt_of_le (by decide) hn) (by decide) h8 h9 rfl rfl (Nat.le_of_ble_eq_true rfl) dL_law_837 ?_
  show Wc K A (mwo LX adX (kcy K) τ ++ mwo LM adM (kcy K) μ) cs sl 840 [(3, .int i), (2, .ref (adM 0)), (1, .ref (adX 0)), (0, .ref b)] [.int v]
  refine k_pop C dL_law_840 rfl ?_
  refine k_aload_n C 1 dL_law_841 rfl ?_
  refine k_swap ?_
  refine k_callL (ar := 0) (q := (RX11, TX11, 22)) (rest := []) C hJM (c_X11_safe hJM hm) (iM 0 (by decide)) rfl rfl hy_X11_safe ⟨tw1005, tw1006, tw1007, tw75, tw1008⟩ (Nat.lt_of_lt_of_le (by decide) hn) (by decide) h8 h9 rfl rfl (Nat.le_of_ble_eq_true rfl) dL_law_842 ?_
  show Wc K A (mwo LM adM (kcy K) ν ++ mwo LX adX (kcy K) τ) cs sl 845 [(3, .int i), (2, .ref (adM 0)), (1, .ref (adX 0)), (0, .ref b)] [.int w]
  refine k_pop C dL_law_845 rfl ?_
  refine k_goto C 1268 dL_law_846 (by decide) ?_
  refine k_swap ?_
  exact kk
set_option maxHeartbeats 4000000 in
set_option maxRecDepth 100000 in
theorem law_21 {K : Kx} {A : Nat → Prop} {n mc ms cs sl : Nat} (C : Cc K A code "CalledNumbersLaw" n mc ms) (hn : 900 ≤ n) (h8 : cs ≤ mc) (h9 : sl ≤ ms) {b L k : Nat} {xs : Nat → Int32} {i : Int32} {adX adM : Nat → Nat} (S : Sx K A b L xs) (h1 : Ix (i + 1) L (6 * k + 1)) (h2 : Ix (i + 2) L (6 * k + 2)) (h3 : Ix (i + 3) L (6 * k + 3)) (h4 : Ix (i + 4) L (6 * k + 4)) (h5 : Ix (i + 5) L (6 * k + 5)) (hJX : mJ LX adX) (hJM : mJ LM adM) {σ μ τ ν : mS} {v : Int32} {w : Int32} (hx : X10_fewest σ (xs (6 * k + 1)) (xs (6 * k + 2)) = some (v, τ)) (hm : X11_fewest μ (xs (6 * k + 1)) (xs (6 * k + 2)) = some (w, ν)) (kk : Wc K A (mwo LX adX (kcy K) τ ++ mwo LM adM (kcy K) ν) cs sl 1268 [(3, .int i), (2, .ref (adM 0)), (1, .ref (adX 0)), (0, .ref b)] []) : Wc K A (mwo LX adX (kcy K) σ ++ mwo LM adM (kcy K) μ) cs sl 849 [(3, .int i), (2, .ref (adM 0)), (1, .ref (adX 0)), (0, .ref b)] [] := by
  refine k_aload_n C 2 dL_law_849 rfl ?_
  refine k_aload_n C 3 dL_law_850 rfl ?_
  refine k_iload_n C 0 dL_law_851 rfl ?_
  refine k_iconst (v := 1) C dL_law_852 rfl ?_
  refine k_iadd C dL_law_853 ?_
  refine k_sld C S h1 dL_law_854 ?_
  refine k_aload_n C 3 dL_law_855 rfl ?_
  refine k_iload_n C 0 dL_law_856 rfl ?_
  refine k_iconst (v := 2) C dL_law_857 rfl ?_
  refine k_iadd C dL_law_858 ?_
  refine k_sld C S h2 dL_law_859 ?_
  refine k_callL (ar := 2) (q := (RX10, TX10, 18)) (rest := []) C hJX (c_X10_fewest hJX hx) (iX 0 (by decide)) rfl rfl hy_X10_fewest ⟨tw592, tw593, tw594, tw63, tw595⟩ (Nat.lt_of_lt_of_le (by decide) hn) (by decide) h8 h9 rfl rfl (Nat.le_of_ble_eq_true rfl) dL_law_860 ?_
  show Wc K A (mwo LX adX (kcy K) τ ++ mwo LM adM (kcy K) μ) cs sl 863 [(3, .int i), (2, .ref (adM 0)), (1, .ref (adX 0)), (0, .ref b)] [.int v]
  refine k_pop C dL_law_863 rfl ?_
  refine k_aload_n C 1 dL_law_864 rfl ?_
  refine k_aload_n C 3 dL_law_865 rfl ?_
  refine k_iload_n C 0 dL_law_866 rfl ?_
  refine k_iconst (v := 1) C dL_law_867 rfl ?_
  refine k_iadd C dL_law_868 ?_
  refine k_sld C S h1 dL_law_869 ?_
  refine k_aload_n C 3 dL_law_870 rfl ?_
  refine k_iload_n C 0 dL_law_871 rfl ?_
  refine k_iconst (v := 2) C dL_law_872 rfl ?_
  refine k_iadd C dL_law_873 ?_
  refine k_sld C S h2 dL_law_874 ?_
  refine k_swap ?_
  refine k_callL (ar := 2) (q := (RX11, TX11, 22)) (rest := []) C hJM (c_X11_fewest hJM hm) (iM 0 (by decide)) rfl rfl hy_X11_fewest ⟨tw1009, tw1010, tw1011, tw75, tw1012⟩ (Nat.lt_of_lt_of_le (by decide) hn) (by decide) h8 h9 rfl rfl (Nat.le_of_ble_eq_true rfl) dL_law_875 ?_
  show Wc K A (mwo LM adM (kcy K) ν ++ mwo LX adX (kcy K) τ) cs sl 878 [(3, .int i), (2, .ref (adM 0)), (1, .ref (adX 0)), (0, .ref b)] [.int w]
  refine k_pop C dL_law_878 rfl ?_
  refine k_goto C 1268 dL_law_879 (by decide) ?_
  refine k_swap ?_
  exact kk
set_option maxHeartbeats 4000000 in
set_option maxRecDepth 100000 in
theorem law_22 {K : Kx} {A : Nat → Prop} {n mc ms cs sl : Nat} (C : Cc K A code "CalledNumbersLaw" n mc ms) (hn : 900 ≤ n) (h8 : cs ≤ mc) (h9 : sl ≤ ms) {b L k : Nat} {xs : Nat → Int32} {i : Int32} {adX adM : Nat → Nat} (S : Sx K A b L xs) (h1 : Ix (i + 1) L (6 * k + 1)) (h2 : Ix (i + 2) L (6 * k + 2)) (h3 : Ix (i + 3) L (6 * k + 3)) (h4 : Ix (i + 4) L (6 * k + 4)) (h5 : Ix (i + 5) L (6 * k + 5)) (hJX : mJ LX adX) (hJM : mJ LM adM) {σ μ τ ν : mS} {v : Int32} {w : Int32} (hx : X10_most σ (xs (6 * k + 1)) (xs (6 * k + 2)) = some (v, τ)) (hm : X11_most μ (xs (6 * k + 1)) (xs (6 * k + 2)) = some (w, ν)) (kk : Wc K A (mwo LX adX (kcy K) τ ++ mwo LM adM (kcy K) ν) cs sl 1268 [(3, .int i), (2, .ref (adM 0)), (1, .ref (adX 0)), (0, .ref b)] []) : Wc K A (mwo LX adX (kcy K) σ ++ mwo LM adM (kcy K) μ) cs sl 882 [(3, .int i), (2, .ref (adM 0)), (1, .ref (adX 0)), (0, .ref b)] [] := by
  refine k_aload_n C 2 dL_law_882 rfl ?_
  refine k_aload_n C 3 dL_law_883 rfl ?_
  refine k_iload_n C 0 dL_law_884 rfl ?_
  refine k_iconst (v := 1) C dL_law_885 rfl ?_
  refine k_iadd C dL_law_886 ?_
  refine k_sld C S h1 dL_law_887 ?_
  refine k_aload_n C 3 dL_law_888 rfl ?_
  refine k_iload_n C 0 dL_law_889 rfl ?_
  refine k_iconst (v := 2) C dL_law_890 rfl ?_
  refine k_iadd C dL_law_891 ?_
  refine k_sld C S h2 dL_law_892 ?_
  refine k_callL (ar := 2) (q := (RX10, TX10, 18)) (rest := []) C hJX (c_X10_most hJX hx) (iX 0 (by decide)) rfl rfl hy_X10_most ⟨tw613, tw614, tw615, tw63, tw616⟩ (Nat.lt_of_lt_of_le (by decide) hn) (by decide) h8 h9 rfl rfl (Nat.le_of_ble_eq_true rfl) dL_law_893 ?_
  show Wc K A (mwo LX adX (kcy K) τ ++ mwo LM adM (kcy K) μ) cs sl 896 [(3, .int i), (2, .ref (adM 0)), (1, .ref (adX 0)), (0, .ref b)] [.int v]
  refine k_pop C dL_law_896 rfl ?_
  refine k_aload_n C 1 dL_law_897 rfl ?_
  refine k_aload_n C 3 dL_law_898 rfl ?_
  refine k_iload_n C 0 dL_law_899 rfl ?_
  refine k_iconst (v := 1) C dL_law_900 rfl ?_
  refine k_iadd C dL_law_901 ?_
  refine k_sld C S h1 dL_law_902 ?_
  refine k_aload_n C 3 dL_law_903 rfl ?_
  refine k_iload_n C 0 dL_law_904 rfl ?_
  refine k_iconst (v := 2) C dL_law_905 rfl ?_
  refine k_iadd C dL_law_906 ?_
  refine k_sld C S h2 dL_law_907 ?_
  refine k_swap ?_
  refine k_callL (ar := 2) (q := (RX11, TX11, 22)) (rest := []) C hJM (c_X11_most hJM hm) (iM 0 (by decide)) rfl rfl hy_X11_most ⟨tw1025, tw1026, tw1027, tw75, tw1028⟩ (Nat.lt_of_lt_of_le (by decide) hn) (by decide) h8 h9 rfl rfl (Nat.le_of_ble_eq_true rfl) dL_law_908 ?_
  show Wc K A (mwo LM adM (kcy K) ν ++ mwo LX adX (kcy K) τ) cs sl 911 [(3, .int i), (2, .ref (adM 0)), (1, .ref (adX 0)), (0, .ref b)] [.int w]
  refine k_pop C dL_law_911 rfl ?_
  refine k_goto C 1268 dL_law_912 (by decide) ?_
  refine k_swap ?_
  exact kk
set_option maxHeartbeats 4000000 in
set_option maxRecDepth 100000 in
theorem law_23 {K : Kx} {A : Nat → Prop} {n mc ms cs sl : Nat} (C : Cc K A code "CalledNumbersLaw" n mc ms) (hn : 900 ≤ n) (h8 : cs ≤ mc) (h9 : sl ≤ ms) {b L k : Nat} {xs : Nat → Int32} {i : Int32} {adX adM : Nat → Nat} (S : Sx K A b L xs) (h1 : Ix (i + 1) L (6 * k + 1)) (h2 : Ix (i + 2) L (6 * k + 2)) (h3 : Ix (i + 3) L (6 * k + 3)) (h4 : Ix (i + 4) L (6 * k + 4)) (h5 : Ix (i + 5) L (6 * k + 5)) (hJX : mJ LX adX) (hJM : mJ LM adM) {σ μ : mS} {v : Int32} {w : Int32} (hx : X10_which σ (xs (6 * k + 1)) (xs (6 * k + 2)) = some v) (hm : X11_which μ (xs (6 * k + 1)) (xs (6 * k + 2)) = some w) (kk : Wc K A (mwo LX adX (kcy K) σ ++ mwo LM adM (kcy K) μ) cs sl 1268 [(3, .int i), (2, .ref (adM 0)), (1, .ref (adX 0)), (0, .ref b)] []) : Wc K A (mwo LX adX (kcy K) σ ++ mwo LM adM (kcy K) μ) cs sl 915 [(3, .int i), (2, .ref (adM 0)), (1, .ref (adX 0)), (0, .ref b)] [] := by
  refine k_aload_n C 2 dL_law_915 rfl ?_
  refine k_aload_n C 3 dL_law_916 rfl ?_
  refine k_iload_n C 0 dL_law_917 rfl ?_
  refine k_iconst (v := 1) C dL_law_918 rfl ?_
  refine k_iadd C dL_law_919 ?_
  refine k_sld C S h1 dL_law_920 ?_
  refine k_aload_n C 3 dL_law_921 rfl ?_
  refine k_iload_n C 0 dL_law_922 rfl ?_
  refine k_iconst (v := 2) C dL_law_923 rfl ?_
  refine k_iadd C dL_law_924 ?_
  refine k_sld C S h2 dL_law_925 ?_
  refine k_callL (ar := 2) (q := (RX10, TX10, 18)) (rest := []) C hJX (c_X10_which hJX hx) (iX 0 (by decide)) rfl rfl hy_X10_which ⟨tw621, tw622, tw623, tw63, tw624⟩ (Nat.lt_of_lt_of_le (by decide) hn) (by decide) h8 h9 rfl rfl (Nat.le_of_ble_eq_true rfl) dL_law_926 ?_
  show Wc K A (mwo LX adX (kcy K) σ ++ mwo LM adM (kcy K) μ) cs sl 929 [(3, .int i), (2, .ref (adM 0)), (1, .ref (adX 0)), (0, .ref b)] [.int v]
  refine k_pop C dL_law_929 rfl ?_
  refine k_aload_n C 1 dL_law_930 rfl ?_
  refine k_aload_n C 3 dL_law_931 rfl ?_
  refine k_iload_n C 0 dL_law_932 rfl ?_
  refine k_iconst (v := 1) C dL_law_933 rfl ?_
  refine k_iadd C dL_law_934 ?_
  refine k_sld C S h1 dL_law_935 ?_
  refine k_aload_n C 3 dL_law_936 rfl ?_
  refine k_iload_n C 0 dL_law_937 rfl ?_
  refine k_iconst (v := 2) C dL_law_938 rfl ?_
  refine k_iadd C dL_law_939 ?_
  refine k_sld C S h2 dL_law_940 ?_
  refine k_swap ?_
  refine k_callL (ar := 2) (q := (RX11, TX11, 22)) (rest := []) C hJM (c_X11_which hJM hm) (iM 0 (by decide)) rfl rfl hy_X11_which ⟨tw1029, tw1030, tw1031, tw75, tw1032⟩ (Nat.lt_of_lt_of_le (by decide) hn) (by decide) h8 h9 rfl rfl (Nat.le_of_ble_eq_true rfl) dL_law_941 ?_
  show Wc K A (mwo LM adM (kcy K) μ ++ mwo LX adX (kcy K) σ) cs sl 944 [(3, .int i), (2, .ref (adM 0)), (1, .ref (adX 0)), (0, .ref b)] [.int w]
  refine k_pop C dL_law_944 rfl ?_
  refine k_goto C 1268 dL_law_945 (by decide) ?_
  refine k_swap ?_
  exact kk
set_option maxHeartbeats 4000000 in
set_option maxRecDepth 100000 in
theorem law_24 {K : Kx} {A : Nat → Prop} {n mc ms cs sl : Nat} (C : Cc K A code "CalledNumbersLaw" n mc ms) (hn : 900 ≤ n) (h8 : cs ≤ mc) (h9 : sl ≤ ms) {b L k : Nat} {xs : Nat → Int32} {i : Int32} {adX adM : Nat → Nat} (S : Sx K A b L xs) (h1 : Ix (i + 1) L (6 * k + 1)) (h2 : Ix (i + 2) L (6 * k + 2)) (h3 : Ix (i + 3) L (6 * k + 3)) (h4 : Ix (i + 4) L (6 * k + 4)) (h5 : Ix (i + 5) L (6 * k + 5)) (hJX : mJ LX adX) (hJM : mJ LM adM) {σ μ τ ν : mS} {v : Int32} {w : Int32} (hx : X10_kinds σ (xs (6 * k + 1)) (xs (6 * k + 2)) = some (v, τ)) (hm : X11_kinds μ (xs (6 * k + 1)) (xs (6 * k + 2)) = some (w, ν)) (kk : Wc K A (mwo LX adX (kcy K) τ ++ mwo LM adM (kcy K) ν) cs sl 1268 [(3, .int i), (2, .ref (adM 0)), (1, .ref (adX 0)), (0, .ref b)] []) : Wc K A (mwo LX adX (kcy K) σ ++ mwo LM adM (kcy K) μ) cs sl 948 [(3, .int i), (2, .ref (adM 0)), (1, .ref (adX 0)), (0, .ref b)] [] := by
  refine k_aload_n C 2 dL_law_948 rfl ?_
  refine k_aload_n C 3 dL_law_949 rfl ?_
  refine k_iload_n C 0 dL_law_950 rfl ?_
  refine k_iconst (v := 1) C dL_law_951 rfl ?_
  refine k_iadd C dL_law_952 ?_
  refine k_sld C S h1 dL_law_953 ?_
  refine k_aload_n C 3 dL_law_954 rfl ?_
  refine k_iload_n C 0 dL_law_955 rfl ?_
  refine k_iconst (v := 2) C dL_law_956 rfl ?_
  refine k_iadd C dL_law_957 ?_
  refine k_sld C S h2 dL_law_958 ?_
  refine k_callL (ar := 2) (q := (RX10, TX10, 18)) (rest := []) C hJX (c_X10_kinds hJX hx) (iX 0 (by decide)) rfl rfl hy_X10_kinds ⟨tw630, tw631, tw632, tw63, tw633⟩ (Nat.lt_of_lt_of_le (by decide) hn) (by decide) h8 h9 rfl rfl (Nat.le_of_ble_eq_true rfl) dL_law_959 ?_
  show Wc K A (mwo LX adX (kcy K) τ ++ mwo LM adM (kcy K) μ) cs sl 962 [(3, .int i), (2, .ref (adM 0)), (1, .ref (adX 0)), (0, .ref b)] [.int v]
  refine k_pop C dL_law_962 rfl ?_
  refine k_aload_n C 1 dL_law_963 rfl ?_
  refine k_aload_n C 3 dL_law_964 rfl ?_
  refine k_iload_n C 0 dL_law_965 rfl ?_
  refine k_iconst (v := 1) C dL_law_966 rfl ?_
  refine k_iadd C dL_law_967 ?_
  refine k_sld C S h1 dL_law_968 ?_
  refine k_aload_n C 3 dL_law_969 rfl ?_
  refine k_iload_n C 0 dL_law_970 rfl ?_
  refine k_iconst (v := 2) C dL_law_971 rfl ?_
  refine k_iadd C dL_law_972 ?_
  refine k_sld C S h2 dL_law_973 ?_
  refine k_swap ?_
  refine k_callL (ar := 2) (q := (RX11, TX11, 22)) (rest := []) C hJM (c_X11_kinds hJM hm) (iM 0 (by decide)) rfl rfl hy_X11_kinds ⟨tw1034, tw1035, tw1036, tw75, tw1037⟩ (Nat.lt_of_lt_of_le (by decide) hn) (by decide) h8 h9 rfl rfl (Nat.le_of_ble_eq_true rfl) dL_law_974 ?_
  show Wc K A (mwo LM adM (kcy K) ν ++ mwo LX adX (kcy K) τ) cs sl 977 [(3, .int i), (2, .ref (adM 0)), (1, .ref (adX 0)), (0, .ref b)] [.int w]
  refine k_pop C dL_law_977 rfl ?_
  refine k_goto C 1268 dL_law_978 (by decide) ?_
  refine k_swap ?_
  exact kk
set_option maxHeartbeats 4000000 in
set_option maxRecDepth 100000 in
theorem law_25 {K : Kx} {A : Nat → Prop} {n mc ms cs sl : Nat} (C : Cc K A code "CalledNumbersLaw" n mc ms) (hn : 900 ≤ n) (h8 : cs ≤ mc) (h9 : sl ≤ ms) {b L k : Nat} {xs : Nat → Int32} {i : Int32} {adX adM : Nat → Nat} (S : Sx K A b L xs) (h1 : Ix (i + 1) L (6 * k + 1)) (h2 : Ix (i + 2) L (6 * k + 2)) (h3 : Ix (i + 3) L (6 * k + 3)) (h4 : Ix (i + 4) L (6 * k + 4)) (h5 : Ix (i + 5) L (6 * k + 5)) (hJX : mJ LX adX) (hJM : mJ LM adM) {σ μ τ ν : mS} {v : Int32} {w : Int32} (hx : X10_next σ (xs (6 * k + 1)) (xs (6 * k + 2)) = some (v, τ)) (hm : X11_next μ (xs (6 * k + 1)) (xs (6 * k + 2)) = some (w, ν)) (kk : Wc K A (mwo LX adX (kcy K) τ ++ mwo LM adM (kcy K) ν) cs sl 1268 [(3, .int i), (2, .ref (adM 0)), (1, .ref (adX 0)), (0, .ref b)] []) : Wc K A (mwo LX adX (kcy K) σ ++ mwo LM adM (kcy K) μ) cs sl 981 [(3, .int i), (2, .ref (adM 0)), (1, .ref (adX 0)), (0, .ref b)] [] := by
  refine k_aload_n C 2 dL_law_981 rfl ?_
  refine k_aload_n C 3 dL_law_982 rfl ?_
  refine k_iload_n C 0 dL_law_983 rfl ?_
  refine k_iconst (v := 1) C dL_law_984 rfl ?_
  refine k_iadd C dL_law_985 ?_
  refine k_sld C S h1 dL_law_986 ?_
  refine k_aload_n C 3 dL_law_987 rfl ?_
  refine k_iload_n C 0 dL_law_988 rfl ?_
  refine k_iconst (v := 2) C dL_law_989 rfl ?_
  refine k_iadd C dL_law_990 ?_
  refine k_sld C S h2 dL_law_991 ?_
  refine k_callL (ar := 2) (q := (RX10, TX10, 18)) (rest := []) C hJX (c_X10_next hJX hx) (iX 0 (by decide)) rfl rfl hy_X10_next ⟨tw646, tw647, tw648, tw63, tw649⟩ (Nat.lt_of_lt_of_le (by decide) hn) (by decide) h8 h9 rfl rfl (Nat.le_of_ble_eq_true rfl) dL_law_992 ?_
  show Wc K A (mwo LX adX (kcy K) τ ++ mwo LM adM (kcy K) μ) cs sl 995 [(3, .int i), (2, .ref (adM 0)), (1, .ref (adX 0)), (0, .ref b)] [.int v]
  refine k_pop C dL_law_995 rfl ?_
  refine k_aload_n C 1 dL_law_996 rfl ?_
  refine k_aload_n C 3 dL_law_997 rfl ?_
  refine k_iload_n C 0 dL_law_998 rfl ?_
  refine k_iconst (v := 1) C dL_law_999 rfl ?_
  refine k_iadd C dL_law_1000 ?_
  refine k_sld C S h1 dL_law_1001 ?_
  refine k_aload_n C 3 dL_law_1002 rfl ?_
  refine k_iload_n C 0 dL_law_1003 rfl ?_
  refine k_iconst (v := 2) C dL_law_1004 rfl ?_
  refine k_iadd C dL_law_1005 ?_
  refine k_sld C S h2 dL_law_1006 ?_
  refine k_swap ?_
  refine k_callL (ar := 2) (q := (RX11, TX11, 22)) (rest := []) C hJM (c_X11_next hJM hm) (iM 0 (by decide)) rfl rfl hy_X11_next ⟨tw1047, tw1048, tw1049, tw75, tw1050⟩ (Nat.lt_of_lt_of_le (by decide) hn) (by decide) h8 h9 rfl rfl (Nat.le_of_ble_eq_true rfl) dL_law_1007 ?_
  show Wc K A (mwo LM adM (kcy K) ν ++ mwo LX adX (kcy K) τ) cs sl 1010 [(3, .int i), (2, .ref (adM 0)), (1, .ref (adX 0)), (0, .ref b)] [.int w]
  refine k_pop C dL_law_1010 rfl ?_
  refine k_goto C 1268 dL_law_1011 (by decide) ?_
  refine k_swap ?_
  exact kk
set_option maxHeartbeats 4000000 in
set_option maxRecDepth 100000 in
theorem law_26 {K : Kx} {A : Nat → Prop} {n mc ms cs sl : Nat} (C : Cc K A code "CalledNumbersLaw" n mc ms) (hn : 900 ≤ n) (h8 : cs ≤ mc) (h9 : sl ≤ ms) {b L k : Nat} {xs : Nat → Int32} {i : Int32} {adX adM : Nat → Nat} (S : Sx K A b L xs) (h1 : Ix (i + 1) L (6 * k + 1)) (h2 : Ix (i + 2) L (6 * k + 2)) (h3 : Ix (i + 3) L (6 * k + 3)) (h4 : Ix (i + 4) L (6 * k + 4)) (h5 : Ix (i + 5) L (6 * k + 5)) (hJX : mJ LX adX) (hJM : mJ LM adM) {σ μ τ ν : mS} {v : Int32} {w : Int32} (hx : X10_duel σ (xs (6 * k + 1)) (xs (6 * k + 2)) (xs (6 * k + 3)) = some (v, τ)) (hm : X11_duel μ (xs (6 * k + 1)) (xs (6 * k + 2)) (xs (6 * k + 3)) = some (w, ν)) (kk : Wc K A (mwo LX adX (kcy K) τ ++ mwo LM adM (kcy K) ν) cs sl 1268 [(3, .int i), (2, .ref (adM 0)), (1, .ref (adX 0)), (0, .ref b)] []) : Wc K A (mwo LX adX (kcy K) σ ++ mwo LM adM (kcy K) μ) cs sl 1014 [(3, .int i), (2, .ref (adM 0)), (1, .ref (adX 0)), (0, .ref b)] [] := by
  refine k_aload_n C 2 dL_law_1014 rfl ?_
  refine k_aload_n C 3 dL_law_1015 rfl ?_
  refine k_iload_n C 0 dL_law_1016 rfl ?_
  refine k_iconst (v := 1) C dL_law_1017 rfl ?_
  refine k_iadd C dL_law_1018 ?_
  refine k_sld C S h1 dL_law_1019 ?_
  refine k_aload_n C 3 dL_law_1020 rfl ?_
  refine k_iload_n C 0 dL_law_1021 rfl ?_
  refine k_iconst (v := 2) C dL_law_1022 rfl ?_
  refine k_iadd C dL_law_1023 ?_
  refine k_sld C S h2 dL_law_1024 ?_
  refine k_aload_n C 3 dL_law_1025 rfl ?_
  refine k_iload_n C 0 dL_law_1026 rfl ?_
  refine k_iconst (v := 3) C dL_law_1027 rfl ?_
  refine k_iadd C dL_law_1028 ?_
  refine k_sld C S h3 dL_law_1029 ?_
  refine k_callL (ar := 3) (q := (RX10, TX10, 18)) (rest := []) C hJX (c_X10_duel hJX hx) (iX 0 (by decide)) rfl rfl hy_X10_duel ⟨tw655, tw656, tw657, tw63, tw658⟩ (Nat.lt_of_lt_of_le (by decide) hn) (by decide) h8 h9 rfl rfl (Nat.le_of_ble_eq_true rfl) dL_law_1030 ?_
  show Wc K A (mwo LX adX (kcy K) τ ++ mwo LM adM (kcy K) μ) cs sl 1033 [(3, .int i), (2, .ref (adM 0)), (1, .ref (adX 0)), (0, .ref b)] [.int v]
  refine k_pop C dL_law_1033 rfl ?_
  refine k_aload_n C 1 dL_law_1034 rfl ?_
  refine k_aload_n C 3 dL_law_1035 rfl ?_
  refine k_iload_n C 0 dL_law_1036 rfl ?_
  refine k_iconst (v := 1) C dL_law_1037 rfl ?_
  refine k_iadd C dL_law_1038 ?_
  refine k_sld C S h1 dL_law_1039 ?_
  refine k_aload_n C 3 dL_law_1040 rfl ?_
  refine k_iload_n C 0 dL_law_1041 rfl ?_
  refine k_iconst (v := 2) C dL_law_1042 rfl ?_
  refine k_iadd C dL_law_1043 ?_
  refine k_sld C S h2 dL_law_1044 ?_
  refine k_aload_n C 3 dL_law_1045 rfl ?_
  refine k_iload_n C 0 dL_law_1046 rfl ?_
  refine k_iconst (v := 3) C dL_law_1047 rfl ?_
  refine k_iadd C dL_law_1048 ?_
  refine k_sld C S h3 dL_law_1049 ?_
  refine k_swap ?_
  refine k_callL (ar := 3) (q := (RX11, TX11, 22)) (rest := []) C hJM (c_X11_duel hJM hm) (iM 0 (by decide)) rfl rfl hy_X11_duel ⟨tw1055, tw1056, tw1057, tw75, tw1058⟩ (Nat.lt_of_lt_of_le (by decide) hn) (by decide) h8 h9 rfl rfl (Nat.le_of_ble_eq_true rfl) dL_law_1050 ?_
  show Wc K A (mwo LM adM (kcy K) ν ++ mwo LX adX (kcy K) τ) cs sl 1053 [(3, .int i), (2, .ref (adM 0)), (1, .ref (adX 0)), (0, .ref b)] [.int w]
  refine k_pop C dL_law_1053 rfl ?_
  refine k_goto C 1268 dL_law_1054 (by decide) ?_
  refine k_swap ?_
  exact kk
set_option maxHeartbeats 4000000 in
set_option maxRecDepth 100000 in
theorem law_27 {K : Kx} {A : Nat → Prop} {n mc ms cs sl : Nat} (C : Cc K A code "CalledNumbersLaw" n mc ms) (hn : 900 ≤ n) (h8 : cs ≤ mc) (h9 : sl ≤ ms) {b L k : Nat} {xs : Nat → Int32} {i : Int32} {adX adM : Nat → Nat} (S : Sx K A b L xs) (h1 : Ix (i + 1) L (6 * k + 1)) (h2 : Ix (i + 2) L (6 * k + 2)) (h3 : Ix (i + 3) L (6 * k + 3)) (h4 : Ix (i + 4) L (6 * k + 4)) (h5 : Ix (i + 5) L (6 * k + 5)) (hJX : mJ LX adX) (hJM : mJ LM adM) {σ μ τ ν : mS} {v : Int32} {w : Int32} (hx : X10_odds σ (xs (6 * k + 1)) (xs (6 * k + 2)) = some (v, τ)) (hm : X11_odds μ (xs (6 * k + 1)) (xs (6 * k + 2)) = some (w, ν)) (kk : Wc K A (mwo LX adX (kcy K) τ ++ mwo LM adM (kcy K) ν) cs sl 1268 [(3, .int i), (2, .ref (adM 0)), (1, .ref (adX 0)), (0, .ref b)] []) : Wc K A (mwo LX adX (kcy K) σ ++ mwo LM adM (kcy K) μ) cs sl 1057 [(3, .int i), (2, .ref (adM 0)), (1, .ref (adX 0)), (0, .ref b)] [] := by
  refine k_aload_n C 2 dL_law_1057 rfl ?_
  refine k_aload_n C 3 dL_law_1058 rfl ?_
  refine k_iload_n C 0 dL_law_1059 rfl ?_
  refine k_iconst (v := 1) C dL_law_1060 rfl ?_
  refine k_iadd C dL_law_1061 ?_
  refine k_sld C S h1 dL_law_1062 ?_
  refine k_aload_n C 3 dL_law_1063 rfl ?_
  refine k_iload_n C 0 dL_law_1064 rfl ?_
  refine k_iconst (v := 2) C dL_law_1065 rfl ?_
  refine k_iadd C dL_law_1066 ?_
  refine k_sld C S h2 dL_law_1067 ?_
  refine k_callL (ar := 2) (q := (RX10, TX10, 18)) (rest := []) C hJX (c_X10_odds hJX hx) (iX 0 (by decide)) rfl rfl hy_X10_odds ⟨tw669, tw670, tw671, tw63, tw672⟩ (Nat.lt_of_lt_of_le (by decide) hn) (by decide) h8 h9 rfl rfl (Nat.le_of_ble_eq_true rfl) dL_law_1068 ?_
  show Wc K A (mwo LX adX (kcy K) τ ++ mwo LM adM (kcy K) μ) cs sl 1071 [(3, .int i), (2, .ref (adM 0)), (1, .ref (adX 0)), (0, .ref b)] [.int v]
  refine k_pop C dL_law_1071 rfl ?_
  refine k_aload_n C 1 dL_law_1072 rfl ?_
  refine k_aload_n C 3 dL_law_1073 rfl ?_
  refine k_iload_n C 0 dL_law_1074 rfl ?_
  refine k_iconst (v := 1) C dL_law_1075 rfl ?_
  refine k_iadd C dL_law_1076 ?_
  refine k_sld C S h1 dL_law_1077 ?_
  refine k_aload_n C 3 dL_law_1078 rfl ?_
  refine k_iload_n C 0 dL_law_1079 rfl ?_
  refine k_iconst (v := 2) C dL_law_1080 rfl ?_
  refine k_iadd C dL_law_1081 ?_
  refine k_sld C S h2 dL_law_1082 ?_
  refine k_swap ?_
  refine k_callL (ar := 2) (q := (RX11, TX11, 22)) (rest := []) C hJM (c_X11_odds hJM hm) (iM 0 (by decide)) rfl rfl hy_X11_odds ⟨tw1067, tw1068, tw1069, tw75, tw1070⟩ (Nat.lt_of_lt_of_le (by decide) hn) (by decide) h8 h9 rfl rfl (Nat.le_of_ble_eq_true rfl) dL_law_1083 ?_
  show Wc K A (mwo LM adM (kcy K) ν ++ mwo LX adX (kcy K) τ) cs sl 1086 [(3, .int i), (2, .ref (adM 0)), (1, .ref (adX 0)), (0, .ref b)] [.int w]
  refine k_pop C dL_law_1086 rfl ?_
  refine k_goto C 1268 dL_law_1087 (by decide) ?_
  refine k_swap ?_
  exact kk
set_option maxHeartbeats 4000000 in
set_option maxRecDepth 100000 in
theorem law_28 {K : Kx} {A : Nat → Prop} {n mc ms cs sl : Nat} (C : Cc K A code "CalledNumbersLaw" n mc ms) (hn : 900 ≤ n) (h8 : cs ≤ mc) (h9 : sl ≤ ms) {b L k : Nat} {xs : Nat → Int32} {i : Int32} {adX adM : Nat → Nat} (S : Sx K A b L xs) (h1 : Ix (i + 1) L (6 * k + 1)) (h2 : Ix (i + 2) L (6 * k + 2)) (h3 : Ix (i + 3) L (6 * k + 3)) (h4 : Ix (i + 4) L (6 * k + 4)) (h5 : Ix (i + 5) L (6 * k + 5)) (hJX : mJ LX adX) (hJM : mJ LM adM) {σ μ τ ν : mS} {v : Int32} {w : Int32} (hx : X10_mid σ (xs (6 * k + 1)) (xs (6 * k + 2)) = some (v, τ)) (hm : X11_mid μ (xs (6 * k + 1)) (xs (6 * k + 2)) = some (w, ν)) (kk : Wc K A (mwo LX adX (kcy K) τ ++ mwo LM adM (kcy K) ν) cs sl 1268 [(3, .int i), (2, .ref (adM 0)), (1, .ref (adX 0)), (0, .ref b)] []) : Wc K A (mwo LX adX (kcy K) σ ++ mwo LM adM (kcy K) μ) cs sl 1090 [(3, .int i), (2, .ref (adM 0)), (1, .ref (adX 0)), (0, .ref b)] [] := by
  refine k_aload_n C 2 dL_law_1090 rfl ?_
  refine k_aload_n C 3 dL_law_1091 rfl ?_
  refine k_iload_n C 0 dL_law_1092 rfl ?_
  refine k_iconst (v := 1) C dL_law_1093 rfl ?_
  refine k_iadd C dL_law_1094 ?_
  refine k_sld C S h1 dL_law_1095 ?_
  refine k_aload_n C 3 dL_law_1096 rfl ?_
  refine k_iload_n C 0 dL_law_1097 rfl ?_
  refine k_iconst (v := 2) C dL_law_1098 rfl ?_
  refine k_iadd C dL_law_1099 ?_
  refine k_sld C S h2 dL_law_1100 ?_
  refine k_callL (ar := 2) (q := (RX10, TX10, 18)) (rest := []) C hJX (c_X10_mid hJX hx) (iX 0 (by decide)) rfl rfl hy_X10_mid ⟨tw692, tw693, tw694, tw63, tw695⟩ (Nat.lt_of_lt_of_le (by decide) hn) (by decide) h8 h9 rfl rfl (Nat.le_of_ble_eq_true rfl) dL_law_1101 ?_
  show Wc K A (mwo LX adX (kcy K) τ ++ mwo LM adM (kcy K) μ) cs sl 1104 [(3, .int i), (2, .ref (adM 0)), (1, .ref (adX 0)), (0, .ref b)] [.int v]
  refine k_pop C dL_law_1104 rfl ?_
  refine k_aload_n C 1 dL_law_1105 rfl ?_
  refine k_aload_n C 3 dL_law_1106 rfl ?_
  refine k_iload_n C 0 dL_law_1107 rfl ?_
  refine k_iconst (v := 1) C dL_law_1108 rfl ?_
  refine k_iadd C dL_law_1109 ?_
  refine k_sld C S h1 dL_law_1110 ?_
  refine k_aload_n C 3 dL_law_1111 rfl ?_
  refine k_iload_n C 0 dL_law_1112 rfl ?_
  refine k_iconst (v := 2) C dL_law_1113 rfl ?_
  refine k_iadd C dL_law_1114 ?_
  refine k_sld C S h2 dL_law_1115 ?_
  refine k_swap ?_
  refine k_callL (ar := 2) (q := (RX11, TX11, 22)) (rest := []) C hJM (c_X11_mid hJM hm) (iM 0 (by decide)) rfl rfl hy_X11_mid ⟨tw1079, tw1080, tw1081, tw75, tw1082⟩ (Nat.lt_of_lt_of_le (by decide) hn) (by decide) h8 h9 rfl rfl (Nat.le_of_ble_eq_true rfl) dL_law_1116 ?_
  show Wc K A (mwo LM adM (kcy K) ν ++ mwo LX adX (kcy K) τ) cs sl 1119 [(3, .int i), (2, .ref (adM 0)), (1, .ref (adX 0)), (0, .ref b)] [.int w]
  refine k_pop C dL_law_1119 rfl ?_
  refine k_goto C 1268 dL_law_1120 (by decide) ?_
  refine k_swap ?_
  exact kk
set_option maxHeartbeats 4000000 in
set_option maxRecDepth 100000 in
theorem law_29 {K : Kx} {A : Nat → Prop} {n mc ms cs sl : Nat} (C : Cc K A code "CalledNumbersLaw" n mc ms) (hn : 900 ≤ n) (h8 : cs ≤ mc) (h9 : sl ≤ ms) {b L k : Nat} {xs : Nat → Int32} {i : Int32} {adX adM : Nat → Nat} (S : Sx K A b L xs) (h1 : Ix (i + 1) L (6 * k + 1)) (h2 : Ix (i + 2) L (6 * k + 2)) (h3 : Ix (i + 3) L (6 * k + 3)) (h4 : Ix (i + 4) L (6 * k + 4)) (h5 : Ix (i + 5) L (6 * k + 5)) (hJX : mJ LX adX) (hJM : mJ LM adM) {σ μ τ ν : mS} {v : Int32} {w : Int32} (hx : X10_lots σ (xs (6 * k + 1)) (xs (6 * k + 2)) = some (v, τ)) (hm : X11_lots μ (xs (6 * k + 1)) (xs (6 * k + 2)) = some (w, ν)) (kk : Wc K A (mwo LX adX (kcy K) τ ++ mwo LM adM (kcy K) ν) cs sl 1268 [(3, .int i), (2, .ref (adM 0)), (1, .ref (adX 0)), (0, .ref b)] []) : Wc K A (mwo LX adX (kcy K) σ ++ mwo LM adM (kcy K) μ) cs sl 1123 [(3, .int i), (2, .ref (adM 0)), (1, .ref (adX 0)), (0, .ref b)] [] := by
  refine k_aload_n C 2 dL_law_1123 rfl ?_
  refine k_aload_n C 3 dL_law_1124 rfl ?_
  refine k_iload_n C 0 dL_law_1125 rfl ?_
  refine k_iconst (v := 1) C dL_law_1126 rfl ?_
  refine k_iadd C dL_law_1127 ?_
  refine k_sld C S h1 dL_law_1128 ?_
  refine k_aload_n C 3 dL_law_1129 rfl ?_
  refine k_iload_n C 0 dL_law_1130 rfl ?_
  refine k_iconst (v := 2) C dL_law_1131 rfl ?_
  refine k_iadd C dL_law_1132 ?_
  refine k_sld C S h2 dL_law_1133 ?_
  refine k_callL (ar := 2) (q := (RX10, TX10, 18)) (rest := []) C hJX (c_X10_lots hJX hx) (iX 0 (by decide)) rfl rfl hy_X10_lots ⟨tw696, tw697, tw698, tw63, tw699⟩ (Nat.lt_of_lt_of_le (by decide) hn) (by decide) h8 h9 rfl rfl (Nat.le_of_ble_eq_true rfl) dL_law_1134 ?_
  show Wc K A (mwo LX adX (kcy K) τ ++ mwo LM adM (kcy K) μ) cs sl 1137 [(3, .int i), (2, .ref (adM 0)), (1, .ref (adX 0)), (0, .ref b)] [.int v]
  refine k_pop C dL_law_1137 rfl ?_
  refine k_aload_n C 1 dL_law_1138 rfl ?_
  refine k_aload_n C 3 dL_law_1139 rfl ?_
  refine k_iload_n C 0 dL_law_1140 rfl ?_
  refine k_iconst (v := 1) C dL_law_1141 rfl ?_
  refine k_iadd C dL_law_1142 ?_
  refine k_sld C S h1 dL_law_1143 ?_
  refine k_aload_n C 3 dL_law_1144 rfl ?_
  refine k_iload_n C 0 dL_law_1145 rfl ?_
  refine k_iconst (v := 2) C dL_law_1146 rfl ?_
  refine k_iadd C dL_law_1147 ?_
  refine k_sld C S h2 dL_law_1148 ?_
  refine k_swap ?_
  refine k_callL (ar := 2) (q := (RX11, TX11, 22)) (rest := []) C hJM (c_X11_lots hJM hm) (iM 0 (by decide)) rfl rfl hy_X11_lots ⟨tw1083, tw1084, tw1085, tw75, tw1086⟩ (Nat.lt_of_lt_of_le (by decide) hn) (by decide) h8 h9 rfl rfl (Nat.le_of_ble_eq_true rfl) dL_law_1149 ?_
  show Wc K A (mwo LM adM (kcy K) ν ++ mwo LX adX (kcy K) τ) cs sl 1152 [(3, .int i), (2, .ref (adM 0)), (1, .ref (adX 0)), (0, .ref b)] [.int w]
  refine k_pop C dL_law_1152 rfl ?_
  refine k_goto C 1268 dL_law_1153 (by decide) ?_
  refine k_swap ?_
  exact kk
set_option maxHeartbeats 4000000 in
set_option maxRecDepth 100000 in
theorem law_30 {K : Kx} {A : Nat → Prop} {n mc ms cs sl : Nat} (C : Cc K A code "CalledNumbersLaw" n mc ms) (hn : 900 ≤ n) (h8 : cs ≤ mc) (h9 : sl ≤ ms) {b L k : Nat} {xs : Nat → Int32} {i : Int32} {adX adM : Nat → Nat} (S : Sx K A b L xs) (h1 : Ix (i + 1) L (6 * k + 1)) (h2 : Ix (i + 2) L (6 * k + 2)) (h3 : Ix (i + 3) L (6 * k + 3)) (h4 : Ix (i + 4) L (6 * k + 4)) (h5 : Ix (i + 5) L (6 * k + 5)) (hJX : mJ LX adX) (hJM : mJ LM adM) {σ μ : mS} (kk : Wc K A (mwo LX adX (kcy K) σ ++ mwo LM adM (kcy K) μ) cs sl 1268 [(3, .int i), (2, .ref (adM 0)), (1, .ref (adX 0)), (0, .ref b)] []) : Wc K A (mwo LX adX (kcy K) σ ++ mwo LM adM (kcy K) μ) cs sl 1156 [(3, .int i), (2, .ref (adM 0)), (1, .ref (adX 0)), (0, .ref b)] [] := by
  refine k_aload_n C 2 dL_law_1156 rfl ?_
  refine k_callL (ar := 0) (q := (RX10, TX10, 18)) (rest := []) C hJX (c_X10_asked hJX rfl) (iX 0 (by decide)) rfl rfl hy_X10_asked ⟨tw706, tw707, tw708, tw63, tw709⟩ (Nat.lt_of_lt_of_le (by decide) hn) (by decide) h8 h9 rfl rfl (Nat.le_of_ble_eq_true rfl) dL_law_1157 ?_
  show Wc K A (mwo LX adX (kcy K) σ ++ mwo LM adM (kcy K) μ) cs sl 1160 [(3, .int i), (2, .ref (adM 0)), (1, .ref (adX 0)), (0, .ref b)] [.int (X10_asked σ)]
  refine k_pop C dL_law_1160 rfl ?_
  refine k_aload_n C 1 dL_law_1161 rfl ?_
  refine k_swap ?_
  refine k_callL (ar := 0) (q := (RX11, TX11, 22)) (rest := []) C hJM (c_X11_asked hJM rfl) (iM 0 (by decide)) rfl rfl hy_X11_asked ⟨tw1091, tw1092, tw1093, tw75, tw1094⟩ (Nat.lt_of_lt_of_le (by decide) hn) (by decide) h8 h9 rfl rfl (Nat.le_of_ble_eq_true rfl) dL_law_1162 ?_
  show Wc K A (mwo LM adM (kcy K) μ ++ mwo LX adX (kcy K) σ) cs sl 1165 [(3, .int i), (2, .ref (adM 0)), (1, .ref (adX 0)), (0, .ref b)] [.int (X11_asked μ)]
  refine k_pop C dL_law_1165 rfl ?_
  refine k_goto C 1268 dL_law_1166 (by decide) ?_
  refine k_swap ?_
  exact kk
set_option maxHeartbeats 4000000 in
set_option maxRecDepth 100000 in
theorem law_31 {K : Kx} {A : Nat → Prop} {n mc ms cs sl : Nat} (C : Cc K A code "CalledNumbersLaw" n mc ms) (hn : 900 ≤ n) (h8 : cs ≤ mc) (h9 : sl ≤ ms) {b L k : Nat} {xs : Nat → Int32} {i : Int32} {adX adM : Nat → Nat} (S : Sx K A b L xs) (h1 : Ix (i + 1) L (6 * k + 1)) (h2 : Ix (i + 2) L (6 * k + 2)) (h3 : Ix (i + 3) L (6 * k + 3)) (h4 : Ix (i + 4) L (6 * k + 4)) (h5 : Ix (i + 5) L (6 * k + 5)) (hJX : mJ LX adX) (hJM : mJ LM adM) {σ μ : mS} (kk : Wc K A (mwo LX adX (kcy K) σ ++ mwo LM adM (kcy K) μ) cs sl 1268 [(3, .int i), (2, .ref (adM 0)), (1, .ref (adX 0)), (0, .ref b)] []) : Wc K A (mwo LX adX (kcy K) σ ++ mwo LM adM (kcy K) μ) cs sl 1169 [(3, .int i), (2, .ref (adM 0)), (1, .ref (adX 0)), (0, .ref b)] [] := by
  refine k_aload_n C 2 dL_law_1169 rfl ?_
  refine k_callL (ar := 0) (q := (RX10, TX10, 18)) (rest := []) C hJX (c_X10_upper hJX rfl) (iX 0 (by decide)) rfl rfl hy_X10_upper ⟨tw710, tw711, tw712, tw63, tw713⟩ (Nat.lt_of_lt_of_le (by decide) hn) (by decide) h8 h9 rfl rfl (Nat.le_of_ble_eq_true rfl) dL_law_1170 ?_
  show Wc K A (mwo LX adX (kcy K) σ ++ mwo LM adM (kcy K) μ) cs sl 1173 [(3, .int i), (2, .ref (adM 0)), (1, .ref (adX 0)), (0, .ref b)] [.long (X10_upper σ)]
  refine k_pop2 C dL_law_1173 rfl ?_
  refine k_aload_n C 1 dL_law_1174 rfl ?_
  refine k_swap ?_
  refine k_callL (ar := 0) (q := (RX11, TX11, 22)) (rest := []) C hJM (c_X11_upper hJM rfl) (iM 0 (by decide)) rfl rfl hy_X11_upper ⟨tw1095, tw1096, tw1097, tw75, tw1098⟩ (Nat.lt_of_lt_of_le (by decide) hn) (by decide) h8 h9 rfl rfl (Nat.le_of_ble_eq_true rfl) dL_law_1175 ?_
  show Wc K A (mwo LM adM (kcy K) μ ++ mwo LX adX (kcy K) σ) cs sl 1178 [(3, .int i), (2, .ref (adM 0)), (1, .ref (adX 0)), (0, .ref b)] [.long (X11_upper μ)]
  refine k_pop2 C dL_law_1178 rfl ?_
  refine k_goto C 1268 dL_law_1179 (by decide) ?_
  refine k_swap ?_
  exact kk
set_option maxHeartbeats 4000000 in
set_option maxRecDepth 100000 in
theorem law_32 {K : Kx} {A : Nat → Prop} {n mc ms cs sl : Nat} (C : Cc K A code "CalledNumbersLaw" n mc ms) (hn : 900 ≤ n) (h8 : cs ≤ mc) (h9 : sl ≤ ms) {b L k : Nat} {xs : Nat → Int32} {i : Int32} {adX adM : Nat → Nat} (S : Sx K A b L xs) (h1 : Ix (i + 1) L (6 * k + 1)) (h2 : Ix (i + 2) L (6 * k + 2)) (h3 : Ix (i + 3) L (6 * k + 3)) (h4 : Ix (i + 4) L (6 * k + 4)) (h5 : Ix (i + 5) L (6 * k + 5)) (hJX : mJ LX adX) (hJM : mJ LM adM) {σ μ : mS} (kk : Wc K A (mwo LX adX (kcy K) σ ++ mwo LM adM (kcy K) μ) cs sl 1268 [(3, .int i), (2, .ref (adM 0)), (1, .ref (adX 0)), (0, .ref b)] []) : Wc K A (mwo LX adX (kcy K) σ ++ mwo LM adM (kcy K) μ) cs sl 1182 [(3, .int i), (2, .ref (adM 0)), (1, .ref (adX 0)), (0, .ref b)] [] := by
  refine k_aload_n C 2 dL_law_1182 rfl ?_
  refine k_callL (ar := 0) (q := (RX10, TX10, 18)) (rest := []) C hJX (c_X10_lower hJX rfl) (iX 0 (by decide)) rfl rfl hy_X10_lower ⟨tw714, tw715, tw716, tw63, tw717⟩ (Nat.lt_of_lt_of_le (by decide) hn) (by decide) h8 h9 rfl rfl (Nat.le_of_ble_eq_true rfl) dL_law_1183 ?_
  show Wc K A (mwo LX adX (kcy K) σ ++ mwo LM adM (kcy K) μ) cs sl 1186 [(3, .int i), (2, .ref (adM 0)), (1, .ref (adX 0)), (0, .ref b)] [.long (X10_lower σ)]
  refine k_pop2 C dL_law_1186 rfl ?_
  refine k_aload_n C 1 dL_law_1187 rfl ?_
  refine k_swap ?_
  refine k_callL (ar := 0) (q := (RX11, TX11, 22)) (rest := []) C hJM (c_X11_lower hJM rfl) (iM 0 (by decide)) rfl rfl hy_X11_lower ⟨tw1099, tw1100, tw1101, tw75, tw1102⟩ (Nat.lt_of_lt_of_le (by decide) hn) (by decide) h8 h9 rfl rfl (Nat.le_of_ble_eq_true rfl) dL_law_1188 ?_
  show Wc K A (mwo LM adM (kcy K) μ ++ mwo LX adX (kcy K) σ) cs sl 1191 [(3, .int i), (2, .ref (adM 0)), (1, .ref (adX 0)), (0, .ref b)] [.long (X11_lower μ)]
  refine k_pop2 C dL_law_1191 rfl ?_
  refine k_goto C 1268 dL_law_1192 (by decide) ?_
  refine k_swap ?_
  exact kk
set_option maxHeartbeats 4000000 in
set_option maxRecDepth 100000 in
theorem law_33 {K : Kx} {A : Nat → Prop} {n mc ms cs sl : Nat} (C : Cc K A code "CalledNumbersLaw" n mc ms) (hn : 900 ≤ n) (h8 : cs ≤ mc) (h9 : sl ≤ ms) {b L k : Nat} {xs : Nat → Int32} {i : Int32} {adX adM : Nat → Nat} (S : Sx K A b L xs) (h1 : Ix (i + 1) L (6 * k + 1)) (h2 : Ix (i + 2) L (6 * k + 2)) (h3 : Ix (i + 3) L (6 * k + 3)) (h4 : Ix (i + 4) L (6 * k + 4)) (h5 : Ix (i + 5) L (6 * k + 5)) (hJX : mJ LX adX) (hJM : mJ LM adM) {σ μ : mS} {v : Int32} {w : Int32} (hx : X10_count σ (xs (6 * k + 1)) = some v) (hm : X11_count μ (xs (6 * k + 1)) = some w) (kk : Wc K A (mwo LX adX (kcy K) σ ++ mwo LM adM (kcy K) μ) cs sl 1268 [(3, .int i), (2, .ref (adM 0)), (1, .ref (adX 0)), (0, .ref b)] []) : Wc K A (mwo LX adX (kcy K) σ ++ mwo LM adM (kcy K) μ) cs sl 1195 [(3, .int i), (2, .ref (adM 0)), (1, .ref (adX 0)), (0, .ref b)] [] := by
  refine k_aload_n C 2 dL_law_1195 rfl ?_
  refine k_aload_n C 3 dL_law_1196 rfl ?_
  refine k_iload_n C 0 dL_law_1197 rfl ?_
  refine k_iconst (v := 1) C dL_law_1198 rfl ?_
  refine k_iadd C dL_law_1199 ?_
  refine k_sld C S h1 dL_law_1200 ?_
  refine k_callL (ar := 1) (q := (RX10, TX10, 18)) (rest := []) C hJX (c_X10_count hJX hx) (iX 0 (by decide)) rfl rfl hy_X10_count ⟨tw718, tw719, tw720, tw63, tw721⟩ (Nat.lt_of_lt_of_le (by decide) hn) (by decide) h8 h9 rfl rfl (Nat.le_of_ble_eq_true rfl) dL_law_1201 ?_
  show Wc K A (mwo LX adX (kcy K) σ ++ mwo LM adM (kcy K) μ) cs sl 1204 [(3, .int i), (2, .ref (adM 0)), (1, .ref (adX 0)), (0, .ref b)] [.int v]
  refine k_pop C dL_law_1204 rfl ?_
  refine k_aload_n C 1 dL_law_1205 rfl ?_
  refine k_aload_n C 3 dL_law_1206 rfl ?_
  refine k_iload_n C 0 dL_law_1207 rfl ?_
  refine k_iconst (v := 1) C dL_law_1208 rfl ?_
  refine k_iadd C dL_law_1209 ?_
  refine k_sld C S h1 dL_law_1210 ?_
  refine k_swap ?_
  refine k_callL (ar := 1) (q := (RX11, TX11, 22)) (rest := []) C hJM (c_X11_count hJM hm) (iM 0 (by decide)) rfl rfl hy_X11_count ⟨tw1103, tw1104, tw1105, tw75, tw1106⟩ (Nat.lt_of_lt_of_le (by decide) hn) (by decide) h8 h9 rfl rfl (Nat.le_of_ble_eq_true rfl) dL_law_1211 ?_
  show Wc K A (mwo LM adM (kcy K) μ ++ mwo LX adX (kcy K) σ) cs sl 1214 [(3, .int i), (2, .ref (adM 0)), (1, .ref (adX 0)), (0, .ref b)] [.int w]
  refine k_pop C dL_law_1214 rfl ?_
  refine k_goto C 1268 dL_law_1215 (by decide) ?_
  refine k_swap ?_
  exact kk
set_option maxHeartbeats 4000000 in
set_option maxRecDepth 100000 in
theorem law_34 {K : Kx} {A : Nat → Prop} {n mc ms cs sl : Nat} (C : Cc K A code "CalledNumbersLaw" n mc ms) (hn : 900 ≤ n) (h8 : cs ≤ mc) (h9 : sl ≤ ms) {b L k : Nat} {xs : Nat → Int32} {i : Int32} {adX adM : Nat → Nat} (S : Sx K A b L xs) (h1 : Ix (i + 1) L (6 * k + 1)) (h2 : Ix (i + 2) L (6 * k + 2)) (h3 : Ix (i + 3) L (6 * k + 3)) (h4 : Ix (i + 4) L (6 * k + 4)) (h5 : Ix (i + 5) L (6 * k + 5)) (hJX : mJ LX adX) (hJM : mJ LM adM) {σ μ : mS} (kk : Wc K A (mwo LX adX (kcy K) σ ++ mwo LM adM (kcy K) μ) cs sl 1268 [(3, .int i), (2, .ref (adM 0)), (1, .ref (adX 0)), (0, .ref b)] []) : Wc K A (mwo LX adX (kcy K) σ ++ mwo LM adM (kcy K) μ) cs sl 1218 [(3, .int i), (2, .ref (adM 0)), (1, .ref (adX 0)), (0, .ref b)] [] := by
  refine k_aload_n C 2 dL_law_1218 rfl ?_
  refine k_callL (ar := 0) (q := (RX10, TX10, 18)) (rest := []) C hJX (c_X10_finding hJX rfl) (iX 0 (by decide)) rfl rfl hy_X10_finding ⟨tw742, tw743, tw744, tw63, tw745⟩ (Nat.lt_of_lt_of_le (by decide) hn) (by decide) h8 h9 rfl rfl (Nat.le_of_ble_eq_true rfl) dL_law_1219 ?_
  show Wc K A (mwo LX adX (kcy K) σ ++ mwo LM adM (kcy K) μ) cs sl 1222 [(3, .int i), (2, .ref (adM 0)), (1, .ref (adX 0)), (0, .ref b)] [.int (X10_finding σ)]
  refine k_pop C dL_law_1222 rfl ?_
  refine k_aload_n C 1 dL_law_1223 rfl ?_
  refine k_swap ?_
  refine k_callL (ar := 0) (q := (RX11, TX11, 22)) (rest := []) C hJM (c_X11_finding hJM rfl) (iM 0 (by decide)) rfl rfl hy_X11_finding ⟨tw1124, tw1125, tw1126, tw75, tw1127⟩ (Nat.lt_of_lt_of_le (by decide) hn) (by decide) h8 h9 rfl rfl (Nat.le_of_ble_eq_true rfl) dL_law_1224 ?_
  show Wc K A (mwo LM adM (kcy K) μ ++ mwo LX adX (kcy K) σ) cs sl 1227 [(3, .int i), (2, .ref (adM 0)), (1, .ref (adX 0)), (0, .ref b)] [.int (X11_finding μ)]
  refine k_pop C dL_law_1227 rfl ?_
  refine k_goto C 1268 dL_law_1228 (by decide) ?_
  refine k_swap ?_
  exact kk
set_option maxHeartbeats 4000000 in
set_option maxRecDepth 100000 in
theorem law_35 {K : Kx} {A : Nat → Prop} {n mc ms cs sl : Nat} (C : Cc K A code "CalledNumbersLaw" n mc ms) (hn : 900 ≤ n) (h8 : cs ≤ mc) (h9 : sl ≤ ms) {b L k : Nat} {xs : Nat → Int32} {i : Int32} {adX adM : Nat → Nat} (S : Sx K A b L xs) (h1 : Ix (i + 1) L (6 * k + 1)) (h2 : Ix (i + 2) L (6 * k + 2)) (h3 : Ix (i + 3) L (6 * k + 3)) (h4 : Ix (i + 4) L (6 * k + 4)) (h5 : Ix (i + 5) L (6 * k + 5)) (hJX : mJ LX adX) (hJM : mJ LM adM) {σ μ : mS} {v : Int32} {w : Int32} (hx : X10_findings σ (xs (6 * k + 1)) = some v) (hm : X11_findings μ (xs (6 * k + 1)) = some w) (kk : Wc K A (mwo LX adX (kcy K) σ ++ mwo LM adM (kcy K) μ) cs sl 1268 [(3, .int i), (2, .ref (adM 0)), (1, .ref (adX 0)), (0, .ref b)] []) : Wc K A (mwo LX adX (kcy K) σ ++ mwo LM adM (kcy K) μ) cs sl 1231 [(3, .int i), (2, .ref (adM 0)), (1, .ref (adX 0)), (0, .ref b)] [] := by
  refine k_aload_n C 2 dL_law_1231 rfl ?_
  refine k_aload_n C 3 dL_law_1232 rfl ?_
  refine k_iload_n C 0 dL_law_1233 rfl ?_
  refine k_iconst (v := 1) C dL_law_1234 rfl ?_
  refine k_iadd C dL_law_1235 ?_
  refine k_sld C S h1 dL_law_1236 ?_
  refine k_callL (ar := 1) (q := (RX10, TX10, 18)) (rest := []) C hJX (c_X10_findings hJX hx) (iX 0 (by decide)) rfl rfl hy_X10_findings ⟨tw746, tw747, tw748, tw63, tw749⟩ (Nat.lt_of_lt_of_le (by decide) hn) (by decide) h8 h9 rfl rfl (Nat.le_of_ble_eq_true rfl) dL_law_1237 ?_
  show Wc K A (mwo LX adX (kcy K) σ ++ mwo LM adM (kcy K) μ) cs sl 1240 [(3, .int i), (2, .ref (adM 0)), (1, .ref (adX 0)), (0, .ref b)] [.int v]
  refine k_pop C dL_law_1240 rfl ?_
  refine k_aload_n C 1 dL_law_1241 rfl ?_
  refine k_aload_n C 3 dL_law_1242 rfl ?_
  refine k_iload_n C 0 dL_law_1243 rfl ?_
  refine k_iconst (v := 1) C dL_law_1244 rfl ?_
  refine k_iadd C dL_law_1245 ?_
  refine k_sld C S h1 dL_law_1246 ?_
  refine k_swap ?_
  refine k_callL (ar := 1) (q := (RX11, TX11, 22)) (rest := []) C hJM (c_X11_findings hJM hm) (iM 0 (by decide)) rfl rfl hy_X11_findings ⟨tw1128, tw1129, tw1130, tw75, tw1131⟩ (Nat.lt_of_lt_of_le (by decide) hn) (by decide) h8 h9 rfl rfl (Nat.le_of_ble_eq_true rfl) dL_law_1247 ?_
  show Wc K A (mwo LM adM (kcy K) μ ++ mwo LX adX (kcy K) σ) cs sl 1250 [(3, .int i), (2, .ref (adM 0)), (1, .ref (adX 0)), (0, .ref b)] [.int w]
  refine k_pop C dL_law_1250 rfl ?_
  refine k_goto C 1268 dL_law_1251 (by decide) ?_
  refine k_swap ?_
  exact kk
set_option maxHeartbeats 4000000 in
set_option maxRecDepth 100000 in
theorem law_36 {K : Kx} {A : Nat → Prop} {n mc ms cs sl : Nat} (C : Cc K A code "CalledNumbersLaw" n mc ms) (hn : 900 ≤ n) (h8 : cs ≤ mc) (h9 : sl ≤ ms) {b L k : Nat} {xs : Nat → Int32} {i : Int32} {adX adM : Nat → Nat} (S : Sx K A b L xs) (h1 : Ix (i + 1) L (6 * k + 1)) (h2 : Ix (i + 2) L (6 * k + 2)) (h3 : Ix (i + 3) L (6 * k + 3)) (h4 : Ix (i + 4) L (6 * k + 4)) (h5 : Ix (i + 5) L (6 * k + 5)) (hJX : mJ LX adX) (hJM : mJ LM adM) {σ μ : mS} {v : Int64} {w : Int64} (hx : X10_digest σ = some v) (hm : X11_digest μ = some w) (he : v = w) (kk : Wc K A (mwo LX adX (kcy K) σ ++ mwo LM adM (kcy K) μ) cs sl 1268 [(3, .int i), (2, .ref (adM 0)), (1, .ref (adX 0)), (0, .ref b)] []) : Wc K A (mwo LX adX (kcy K) σ ++ mwo LM adM (kcy K) μ) cs sl 1254 [(3, .int i), (2, .ref (adM 0)), (1, .ref (adX 0)), (0, .ref b)] [] := by
  refine k_aload_n C 2 dL_law_1254 rfl ?_
  refine k_callL (ar := 0) (q := (RX10, TX10, 18)) (rest := []) C hJX (c_X10_digest hJX hx) (iX 0 (by decide)) rfl rfl hy_X10_digest ⟨tw750, tw751, tw752, tw63, tw753⟩ (Nat.lt_of_lt_of_le (by decide) hn) (by decide) h8 h9 rfl rfl (Nat.le_of_ble_eq_true rfl) dL_law_1255 ?_
  show Wc K A (mwo LX adX (kcy K) σ ++ mwo LM adM (kcy K) μ) cs sl 1258 [(3, .int i), (2, .ref (adM 0)), (1, .ref (adX 0)), (0, .ref b)] [.long v]
  refine k_aload_n C 1 dL_law_1258 rfl ?_
  refine k_swap ?_
  refine k_callL (ar := 0) (q := (RX11, TX11, 22)) (rest := [.long v]) C hJM (c_X11_digest hJM hm) (iM 0 (by decide)) rfl rfl hy_X11_digest ⟨tw1132, tw1133, tw1134, tw75, tw1135⟩ (Nat.lt_of_lt_of_le (by decide) hn) (by decide) h8 h9 rfl rfl (Nat.le_of_ble_eq_true rfl) dL_law_1259 ?_
  show Wc K A (mwo LM adM (kcy K) μ ++ mwo LX adX (kcy K) σ) cs sl 1262 [(3, .int i), (2, .ref (adM 0)), (1, .ref (adX 0)), (0, .ref b)] [.long w, .long v]
  refine k_lcmpeq C 1268 dL_law_1262 dL_law_1263 (by decide) (fun _ => ?_) (fun c => absurd he c)
  refine k_swap ?_
  exact kk
