/-! all of it -/
theorem op_sim {A B : Option (Int32 × mS)} {q : Bool} (h : SIM A B) : ∃ v : Int32, ∃ τ : mS, ∃ w : Int32, ∃ ν : mS, A = some (v, τ) ∧ B = some (w, ν) ∧ (q = true → v = w) ∧ RR τ ν := by
  obtain ⟨v, τ, ν, h1, h2, h3⟩ := h
  exact ⟨v, τ, v, ν, h1, h2, fun _ => rfl, h3⟩
theorem op_val {T : Type} {A B : Option T} {q : Bool} {σ μ : mS} (hR : RR σ μ) (h : ∃ v, A = some v ∧ B = some v) : ∃ v : T, ∃ w : T, A = some v ∧ B = some w ∧ (q = true → v = w) ∧ RR σ μ := by
  obtain ⟨v, h1, h2⟩ := h
  exact ⟨v, v, h1, h2, fun _ => rfl, hR⟩
theorem op_all {ev : Nat → Bool} (h18 : ev 18 = false) {a1 a2 a3 a4 a5 : Int32} {σ μ : mS} (h : RR σ μ) : ∀ j, j ≤ 37 → OpOK ev a1 a2 a3 a4 a5 σ μ RR j := by
  intro j hj
  match j, hj with
  | 0, _ => exact op_sim (sim_row h _ _)
  | 1, _ => exact op_sim (sim_lay h _ _ _)
  | 2, _ => exact op_sim (sim_at h _ _)
  | 3, _ => exact op_sim (sim_tear h _)
  | 4, _ => exact op_sim (sim_copy h _ _ _ _ _)
  | 5, _ => exact op_sim (sim_mean h _)
  | 6, _ => exact op_sim (sim_text h _ _)
  | 7, _ => exact op_sim (sim_put h _ _ _)
  | 8, _ => exact op_sim (sim_fault h _)
  | 9, _ => exact op_sim (sim_hall h _)
  | 10, _ => exact op_sim (sim_player h _ _)
  | 11, _ => exact op_sim (sim_card h _ _)
  | 12, _ => exact op_sim (sim_mark h _ _)
  | 13, _ => exact op_sim (sim_call h _)
  | 14, _ => exact op_sim (sim_rub h _ _)
  | 15, _ => exact op_sim (sim_undo h _)
  | 16, _ => exact op_sim (sim_keep h _)
  | 17, _ => exact op_sim (sim_on h _)
  | 18, _ =>
    obtain ⟨v, w, h1, h2⟩ := hears_ok h a1 a2 a3 a4
    exact ⟨v, w, h1, h2, fun q => absurd q (by rw [h18]; decide), h⟩
  | 19, _ => exact op_sim (sim_run h _)
  | 20, _ => exact op_sim (sim_safe h)
  | 21, _ => exact op_sim (sim_fewest h _ _)
  | 22, _ => exact op_sim (sim_most h _ _)
  | 23, _ => exact op_val h (which_ok h _ _)
  | 24, _ => exact op_sim (sim_kinds h _ _)
  | 25, _ => exact op_sim (sim_next h _ _)
  | 26, _ => exact op_sim (sim_duel h _ _ _)
  | 27, _ => exact op_sim (sim_odds h _ _)
  | 28, _ => exact op_sim (sim_mid h _ _)
  | 29, _ => exact op_sim (sim_lots h _ _)
  | 30, _ => exact ⟨fun _ => h.2.2.2.1.symm, h⟩
  | 31, _ => exact ⟨fun _ => h.2.2.2.2.1.symm, h⟩
  | 32, _ => exact ⟨fun _ => h.2.2.2.2.2.1.symm, h⟩
  | 33, _ => exact op_val h (sim_count h _)
  | 34, _ => exact ⟨fun _ => h.2.2.2.2.2.2.1.symm, h⟩
  | 35, _ => exact op_val h (sim_findings h _)
  | 36, _ => exact op_val h (sim_digest h)
  | 37, _ => exact h
  | j + 38, q => exact absurd q (by omega)
theorem g_0 : getH (mM0.1 10) 0 = fun _ => 0 := by
  have e : mM0.1 10 = fun _ => 0 := rfl
  rw [e]
  funext q
  unfold getH
  split <;> rfl
theorem h_0 : HX mX0 5 = fun _ => 0 := by
  have e1 : mX0.1 (152 + 5) = fun _ => 0 := rfl
  have e2 : mX0.1 (144 + 5) = fun _ => 0 := rfl
  funext q
  unfold HX
  rw [e1, e2]
  repeat' (first | rfl | split)
theorem f_0 : frH 0 = fun _ => 0 := by
  funext q
  unfold frH
  repeat' (first | rfl | split)
theorem RR_0 : RR mX0 mM0 := by
  refine ⟨?_, ?_, ⟨(0, mM0.1 6, mM0.1 7), ?_⟩, rfl, rfl, rfl, rfl, ?_⟩
  · intro r hr
    rcases (show r = 0 ∨ r = 1 ∨ r = 2 ∨ r = 3 ∨ r = 4 ∨ r = 5 by omega) with rfl | rfl | rfl | rfl | rfl | rfl <;> exact ⟨by decide +kernel, by decide +kernel, by decide +kernel, fun i hi => absurd hi (by rw [show (mX0.1 24 _).toInt = -1 by decide +kernel]; omega)⟩
  · intro r hr
    rcases (show r = 0 ∨ r = 1 ∨ r = 2 ∨ r = 3 by omega) with rfl | rfl | rfl | rfl <;> exact ⟨by decide +kernel, by decide +kernel, by decide +kernel, fun i hi => absurd hi (by rw [show (mX0.1 48 _).toInt = -1 by decide +kernel]; omega)⟩
  · refine ⟨by decide +kernel, rfl, rfl, ⟨by decide +kernel, by decide, fun i hi => absurd hi (Nat.not_lt_zero _)⟩, fun i hi => absurd hi (Nat.not_lt_zero _), ?_, by decide +kernel, ⟨0, fun _ => 0, by decide +kernel, by decide, fun k hk => absurd hk (Nat.not_lt_zero _), ?_, fun k hk => absurd hk (Nat.not_lt_zero _)⟩, fun k hk => ?_⟩
    · rw [h_0, g_0]
    · rw [g_0]
      exact f_0.symm
    · rcases (show k = 0 ∨ k = 1 ∨ k = 2 by omega) with rfl | rfl | rfl <;> exact ⟨by decide +kernel, Or.inl (by decide +kernel)⟩
  · intro f hf
    rcases (show f = 0 ∨ f = 1 ∨ f = 2 ∨ f = 3 ∨ f = 4 ∨ f = 5 by omega) with rfl | rfl | rfl | rfl | rfl | rfl <;> decide +kernel
theorem whole_start {p : Program} {e : Env} {s : State} {m : MethodId} {below : List Frame} {meth : Method} {c : Code} (l : Launch) (hflags : l.flags = flags0) {b L : Nat} {xs : Nat → Int32} (hL : L ≤ 3072) (C0 : lw_At p s m meth c b L xs) : W p l e room_1 s m #[Value.ref b] below meth c s.heap [] 0 0 (lw_Z below #[Value.ref b] s) (entryFrame m ([Value.ref b] : List Value).toArray 4) :=
  law_main l hL C0 (ev := fun j => decide (j ≠ 18)) (fun j h => decide_eq_true (fun e => by subst e; exact absurd h (by decide))) (Inv := fun _ => RR) RR_0 (fun k σ μ hk hI => op_all rfl hI)
