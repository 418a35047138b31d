/-! a found path laid down as a row -/
theorem RR_lay {s m τ ν : mS} (h : RR s m) {r N : Nat} (hr : r < 6) (hN : N ≤ 4) (t24 : τ.1 24 = upd (s.1 24) r (nI N)) (to : ∀ q, q ≠ 24 → q ≠ 16 + r → τ.1 q = s.1 q) (t2 : τ.2 = s.2) (n1 : ν.1 1 = upd (m.1 1) r (nI N)) (n2 : ∀ j, (j < 40 * r ∨ 40 * r + 40 ≤ j) → ν.1 2 j = m.1 2 j) (no : ∀ q, q ≠ 1 → q ≠ 2 → ν.1 q = m.1 q) (nL : ν.2 = m.2) (hp : ∀ j, j < N → ν.1 2 (40 * r + j) = τ.1 (16 + r) j) : RR τ ν := by
  obtain ⟨hW, hT, ⟨c, hG⟩, hO⟩ := h
  have Ni : (nI N).toInt = (N : Int) := nI_ti (by omega)
  refine ⟨?_, ?_, ⟨c, ?_⟩, ?_⟩
  · refine hW.set (r := r) (v := nI N) (by omega) (fun q hq => ?_) (fun q hq hqr => to _ (by omega) (by omega)) (fun q hq => ?_) (fun q hq hqr i hi => n2 _ (by omega)) (fun i hi => hp i (by omega))
    · rw [t24]
      by_cases e : q = r
      · subst e; rw [upd_at, if_pos rfl]
      · rw [upd_ne e, if_neg e]
    · rw [n1]
      by_cases e : q = r
      · subst e; rw [upd_at, if_pos rfl]
      · rw [upd_ne e, if_neg e]
  · exact hT.of (to _ (by omega) (by omega)) (fun q hq => to _ (by omega) (by omega)) (no _ (by omega) (by omega)) (no _ (by omega) (by omega))
  · exact hG.of (fun k hk => by unfold gX at hk; exact to k (by omega) (by omega)) (by rw [no 0 (by omega) (by omega)]) (by rw [no 0 (by omega) (by omega)]) (no _ (by omega) (by omega)) (no _ (by omega) (by omega)) (fun q _ => by rw [no 10 (by omega) (by omega)]) (fun q _ => by rw [no 11 (by omega) (by omega)])
  · exact hO.of (by rw [to 0 (by omega) (by omega)]) (by rw [to 0 (by omega) (by omega)]) t2 (fun f _ => by rw [to 208 (by omega) (by omega)]) (by rw [no 0 (by omega) (by omega)]) (by rw [no 0 (by omega) (by omega)]) nL (fun f _ => by rw [no 12 (by omega) (by omega)])
theorem lay_X {s : mS} {r N : Nat} (hr : r < 6) (hN : N ≤ 4) : ∃ τ, X10_layTrail s (nI r) (nI N) = some ((), τ) ∧ τ.1 24 = upd (s.1 24) r (nI N) ∧ (∀ q, q ≠ 24 → q ≠ 16 + r → τ.1 q = s.1 q) ∧ τ.2 = s.2 ∧ (∀ j, j < N → τ.1 (16 + r) j = s.1 192 j) := by
  unfold X10_layTrail
  have hv : vin (nI r) 6 = true := vinI hr (by omega)
  have z : (0 : Int32).toNatClampNeg = 0 := by decide
  have n0 : ¬ nI N < 0 := fun q => by have := i_lt.mp q; rw [nI_ti (by omega)] at this; have : (N : Int) < 0 := this; omega
  rw [if_pos hv, if_pos hv, nI_nat (n := N) (by omega), nI_nat (n := r) (by omega), z, if_pos ⟨⟨⟨by decide, by decide⟩, n0⟩, by omega, by omega⟩, va_cpy_row]
  refine ⟨_, rfl, ?_, fun q q1 q2 => ?_, rfl, fun j hj => ?_⟩
  · rw [mwI_row, mrow_at, mrow_ne (by omega)]
  · rw [mwI_rk q1, mrow_ne q2]
  · rw [mwI_rk (by omega), mrow_at]
    unfold va_cpy
    rw [if_pos (by omega), Nat.zero_add, Nat.sub_zero]
/-! how many numbers are left -/
theorem nf_rm {b b' : Int32} {n : Nat} (hb : ∀ j, j < 32 → bt b' j = (bt b j && decide (j ≠ n))) : ∀ d x, x + d ≤ 32 → (nf b' d x).length + (if x ≤ n ∧ n < x + d ∧ bt b n = true then 1 else 0) = (nf b d x).length
  | 0, x, _ => by
    rw [if_neg (by omega)]
    rfl
  | d + 1, x, hx => by
    have ih := nf_rm hb d (x + 1) (by omega)
    have hbx := hb x (by omega)
    by_cases q : bt b x = true
    · rw [nf_y q, List.length_cons]
      by_cases e : x = n
      · subst e
        rw [q, decide_eq_false (by simp), Bool.and_false] at hbx
        rw [nf_n (by rw [hbx]; decide), if_pos ⟨Nat.le_refl _, by omega, q⟩]
        rw [if_neg (by omega)] at ih
        omega
      · rw [q, decide_eq_true e, Bool.and_true] at hbx
        rw [nf_y hbx, List.length_cons]
        by_cases w : x + 1 ≤ n ∧ n < x + 1 + d ∧ bt b n = true
        · rw [if_pos w] at ih
          rw [if_pos ⟨by omega, by omega, w.2.2⟩]
          omega
        · rw [if_neg w] at ih
          rw [if_neg (fun u => w ⟨by omega, by omega, u.2.2⟩)]
          omega
    · have q0 : bt b x = false := Bool.eq_false_iff.mpr q
      rw [q0, Bool.false_and] at hbx
      rw [nf_n q, nf_n (by rw [hbx]; decide)]
      by_cases w : x + 1 ≤ n ∧ n < x + 1 + d ∧ bt b n = true
      · rw [if_pos w] at ih
        rw [if_pos ⟨by omega, by omega, w.2.2⟩]
        exact ih
      · rw [if_neg w] at ih
        rw [if_neg (fun u => w ⟨by by_cases e : x = n <;> first | (subst e; exact absurd u.2.2 q) | omega, by omega, u.2.2⟩)]
        exact ih
def cnB (b : Int32) : Nat := (nf b 12 1).length
theorem nf_mem {b : Int32} : ∀ d x n, n ∈ nf b d x → x ≤ n ∧ n < x + d ∧ bt b n = true
  | 0, _, n, h => absurd h (List.not_mem_nil)
  | d + 1, x, n, h => by
    by_cases q : bt b x = true
    · rw [nf_y q] at h
      rcases List.mem_cons.mp h with rfl | h
      · exact ⟨Nat.le_refl _, by omega, q⟩
      · have := nf_mem d (x + 1) n h
        exact ⟨by omega, by omega, this.2.2⟩
    · rw [nf_n q] at h
      have := nf_mem d (x + 1) n h
      exact ⟨by omega, by omega, this.2.2⟩
theorem bt_not (x : Int32) {n j : Nat} (hn : n < 32) (hj : j < 32) : bt (x &&& (((1 : Int32) <<< (nI n &&& 31)) ^^^ (-1))) j = (bt x j && decide (j ≠ n)) := by
  have hx : ∀ y : Int32, bt (y ^^^ (-1)) j = !(bt y j) := by
    intro y
    unfold bt
    rw [Int32.toBitVec_xor, BitVec.getLsbD_xor]
    have : (-1 : Int32).toBitVec.getLsbD j = true := by
      have e : (-1 : Int32).toBitVec = BitVec.allOnes 32 := by decide
      rw [e, BitVec.getLsbD_allOnes]
      exact decide_eq_true hj
    rw [this, Bool.xor_true]
  rw [b_and, hx, shl_bt hn hj]
  congr 1
  by_cases e : j = n <;> simp [e]
theorem cn_ring {c : cT} {h : hT} (hP : c.1 ≤ 4) {n : Nat} (hn : n ∈ nf (h 5) 12 1) : cnB (ringH c h (nI n) 5) + 1 = cnB (h 5) := by
  obtain ⟨n1, n2, n3⟩ := nf_mem 12 1 n hn
  have e : ringH c h (nI n) 5 = h 5 &&& (((1 : Int32) <<< (nI n &&& 31)) ^^^ (-1)) := by unfold ringH; rw [if_neg (by omega), if_neg (by decide), if_pos rfl]
  have := nf_rm (b := h 5) (b' := ringH c h (nI n) 5) (n := n) (fun j hj => by rw [e]; exact bt_not _ (by omega) hj) 12 1 (by omega)
  rw [if_pos ⟨n1, n2, n3⟩] at this
  exact this
theorem fm_nil {α β : Type} {g : α → List β} : ∀ l : List α, (∀ a, a ∈ l → g a = []) → l.flatMap g = []
  | [], _ => rfl
  | a :: l, h => by
    rw [List.flatMap_cons, h a List.mem_cons_self, fm_nil l (fun x hx => h x (List.mem_cons_of_mem _ hx))]
    rfl
theorem lv_nil {c : cT} (hP : c.1 ≤ 4) : ∀ N h, cnB (h 5) < N → lv c N h = []
  | 0, h, q => absurd q (Nat.not_lt_zero _)
  | N + 1, h, q => fm_nil _ (fun n hn => by
    have := cn_ring hP hn
    rw [lv_nil hP N _ (by omega)]
    rfl)
theorem cn_bits : ∀ n, n < 4096 → J6_bitCount_0f7a4 (nI (2 * n)) = nI (cnB (nI (2 * n))) ∧ bitsT (nI (2 * n)) = nI (cnB (nI (2 * n))) := by
  have key : ∀ a, a < 64 → ∀ b, b < 64 → J6_bitCount_0f7a4 (nI (2 * (64 * a + b))) = nI (cnB (nI (2 * (64 * a + b)))) ∧ bitsT (nI (2 * (64 * a + b))) = nI (cnB (nI (2 * (64 * a + b)))) := by decide +kernel
  intro n hn
  have k := key (n / 64) (by omega) (n % 64) (by omega)
  rw [show 64 * (n / 64) + n % 64 = n by omega] at k
  exact k
theorem cnB_le (b : Int32) : cnB b ≤ 12 := nf_len b 12 1
