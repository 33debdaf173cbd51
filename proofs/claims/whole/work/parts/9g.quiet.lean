/-! ===== H2: quiet ===== -/
theorem q_sixteens (d : Nat) (n : Int) (s : Mem) (h : 0 ≤ n ∧ n ≤ 8) : sem (d + 1) 190 [n] s = some (16 ^ n.toNat, s) := by
  apply CV_eq; apply c_Hall_sixteens
  obtain rfl | rfl | rfl | rfl | rfl | rfl | rfl | rfl | rfl : n = 0 ∨ n = 1 ∨ n = 2 ∨ n = 3 ∨ n = 4 ∨ n = 5 ∨ n = 6 ∨ n = 7 ∨ n = 8 := by omega
  all_goals
    simp (disch := first | assumption | omega) only [rn, wk, al, wr_e, td_e, tm_e, mset_eq, mset_ne, if_pos, if_neg, Int.reduceAdd, Int.reduceSub, Int.reduceMul, Int.reduceNeg, Int.reduceLT, Int.reduceLE, Int.reduceEq, Int.cast_ofNat_Int, eq_self, and_true, true_and, ite_self, true_or, or_true, false_or, or_false, and_false, false_and, not_true_eq_false, not_false_eq_true, if_true, if_false, e_Hall_sixteens_0]
    decide
theorem q_isLoudOn (d : Nat) {h : Int} (hh : isH h) (s : Mem) (k x : Int) (hv : VB (win s h)) (hk : 0 ≤ k ∧ k < s h 5) (hvk : vK (win s h) (s (h + 9) k)) (hx : 0 ≤ x ∧ x < s h 3) : sem (d + 4) 194 [h, k, x] s = some (if 0 < aS (win s h) (s (h + 9) k / 21) (s (h + 5) x) then 1 else 0, s) := by
  apply CV_eq; apply c_Hall_isLoudOn
  have q := q_allOfCall d hh s k x hv hk hvk hx
  by_cases c : 0 < aS (win s h) (s (h + 9) k / 21) (s (h + 5) x)
  · simp (disch := first | assumption | omega) only [rn, wk, al, wr_e, td_e, tm_e, mset_eq, mset_ne, if_pos, if_neg, Int.reduceAdd, Int.reduceSub, Int.reduceMul, Int.reduceNeg, Int.reduceLT, Int.reduceLE, Int.reduceEq, Int.cast_ofNat_Int, eq_self, and_true, true_and, ite_self, true_or, or_true, false_or, or_false, and_false, false_and, not_true_eq_false, not_false_eq_true, if_true, if_false, e_Hall_isLoudOn_0, e_Hall_isLoudOn_13, e_Hall_isLoudOn_14, q]
  · simp (disch := first | assumption | omega) only [rn, wk, al, wr_e, td_e, tm_e, mset_eq, mset_ne, if_pos, if_neg, Int.reduceAdd, Int.reduceSub, Int.reduceMul, Int.reduceNeg, Int.reduceLT, Int.reduceLE, Int.reduceEq, Int.cast_ofNat_Int, eq_self, and_true, true_and, ite_self, true_or, or_true, false_or, or_false, and_false, false_and, not_true_eq_false, not_false_eq_true, if_true, if_false, e_Hall_isLoudOn_0, e_Hall_isLoudOn_13, e_Hall_isLoudOn_14, q]
theorem q_isHeardOn (d : Nat) (A s : Mem) (h : RB A s) (hk : RK A (s 138)) (k x : Int) (hk1 : 0 ≤ k ∧ k < A 0 5) (hx : 0 ≤ x ∧ x < A 0 3) : sem (d + 4) 355 [137, k, x] s = some (if 0 < aS A (A 9 k / 21) (A 5 x) then 1 else 0, s) := by
  apply CV_eq; apply c_R_isHeardOn
  have h1 := h.1.1
  unfold VC at h1
  have q := hk k hk1
  have hl := (h.1.2.2.1 _ q.2.1).2.1
  have hp := h.1.2.1 x hx
  have g50 := h.2.2.1 x hx
  have e21 : A 9 k / 21 = 3 * s 138 (109 + 3 * k) + s 138 (110 + 3 * k) := by omega
  have hv := rk_v h.1.1 h.1.2.2.1 hk hk1
  have b0 := aP_ok h.1 hv.2.2 hp (i := 0) (by omega)
  have b1 := aP_ok h.1 hv.2.2 hp (i := 1) (by omega)
  have b2 := aP_ok h.1 hv.2.2 hp (i := 2) (by omega)
  have q0 := q_loudAt d A s h (s 138 (109 + 3 * k)) (s 138 (110 + 3 * k)) 0 (A 5 x) q.2.1 q.2.2.1 (by omega) hp
  have q1 := q_loudAt d A s h (s 138 (109 + 3 * k)) (s 138 (110 + 3 * k)) 1 (A 5 x) q.2.1 q.2.2.1 (by omega) hp
  have q2 := q_loudAt d A s h (s 138 (109 + 3 * k)) (s 138 (110 + 3 * k)) 2 (A 5 x) q.2.1 q.2.2.1 (by omega) hp
  rw [← e21] at q0 q1 q2
  have k0 : 109 + 3 * k + 0 = 109 + 3 * k := by omega
  have k1 : 109 + 3 * k + 1 = 110 + 3 * k := by omega
  unfold aS
  simp (disch := first | assumption | omega) only [rn, wk, al, wr_e, td_e, tm_e, mset_eq, mset_ne, if_pos, if_neg, Int.reduceAdd, Int.reduceSub, Int.reduceMul, Int.reduceNeg, Int.reduceLT, Int.reduceLE, Int.reduceEq, Int.cast_ofNat_Int, eq_self, and_true, true_and, ite_self, true_or, or_true, false_or, or_false, and_false, false_and, not_true_eq_false, not_false_eq_true, if_true, if_false, e_R_isHeardOn_0, e_R_isHeardOn_38, e_R_isHeardOn_44]
  rw [e_R_isHeardOn_2]
  by_cases c0 : 0 < aP A (A 9 k / 21) (A 5 x) 0
  · simp (disch := first | assumption | omega) only [rn, wk, al, wr_e, td_e, tm_e, mset_eq, mset_ne, if_pos, if_neg, Int.reduceAdd, Int.reduceSub, Int.reduceMul, Int.reduceNeg, Int.reduceLT, Int.reduceLE, Int.reduceEq, Int.cast_ofNat_Int, eq_self, and_true, true_and, ite_self, true_or, or_true, false_or, or_false, and_false, false_and, not_true_eq_false, not_false_eq_true, if_true, if_false, q_callOf, k0, k1, g50, q0]
  · simp (disch := first | assumption | omega) only [rn, wk, al, wr_e, td_e, tm_e, mset_eq, mset_ne, if_pos, if_neg, Int.reduceAdd, Int.reduceSub, Int.reduceMul, Int.reduceNeg, Int.reduceLT, Int.reduceLE, Int.reduceEq, Int.cast_ofNat_Int, eq_self, and_true, true_and, ite_self, true_or, or_true, false_or, or_false, and_false, false_and, not_true_eq_false, not_false_eq_true, if_true, if_false, e_R_isHeardOn_0, e_R_isHeardOn_38, e_R_isHeardOn_44, q_callOf, k0, k1, g50, q0]
    rw [e_R_isHeardOn_2]
    by_cases c1 : 0 < aP A (A 9 k / 21) (A 5 x) 1
    · simp (disch := first | assumption | omega) only [rn, wk, al, wr_e, td_e, tm_e, mset_eq, mset_ne, if_pos, if_neg, Int.reduceAdd, Int.reduceSub, Int.reduceMul, Int.reduceNeg, Int.reduceLT, Int.reduceLE, Int.reduceEq, Int.cast_ofNat_Int, eq_self, and_true, true_and, ite_self, true_or, or_true, false_or, or_false, and_false, false_and, not_true_eq_false, not_false_eq_true, if_true, if_false, q_callOf, k0, k1, g50, q1]
    · simp (disch := first | assumption | omega) only [rn, wk, al, wr_e, td_e, tm_e, mset_eq, mset_ne, if_pos, if_neg, Int.reduceAdd, Int.reduceSub, Int.reduceMul, Int.reduceNeg, Int.reduceLT, Int.reduceLE, Int.reduceEq, Int.cast_ofNat_Int, eq_self, and_true, true_and, ite_self, true_or, or_true, false_or, or_false, and_false, false_and, not_true_eq_false, not_false_eq_true, if_true, if_false, e_R_isHeardOn_0, e_R_isHeardOn_38, e_R_isHeardOn_44, q_callOf, k0, k1, g50, q1]
      rw [e_R_isHeardOn_2]
      by_cases c2 : 0 < aP A (A 9 k / 21) (A 5 x) 2
      · simp (disch := first | assumption | omega) only [rn, wk, al, wr_e, td_e, tm_e, mset_eq, mset_ne, if_pos, if_neg, Int.reduceAdd, Int.reduceSub, Int.reduceMul, Int.reduceNeg, Int.reduceLT, Int.reduceLE, Int.reduceEq, Int.cast_ofNat_Int, eq_self, and_true, true_and, ite_self, true_or, or_true, false_or, or_false, and_false, false_and, not_true_eq_false, not_false_eq_true, if_true, if_false, q_callOf, k0, k1, g50, q2]
      · simp (disch := first | assumption | omega) only [rn, wk, al, wr_e, td_e, tm_e, mset_eq, mset_ne, if_pos, if_neg, Int.reduceAdd, Int.reduceSub, Int.reduceMul, Int.reduceNeg, Int.reduceLT, Int.reduceLE, Int.reduceEq, Int.cast_ofNat_Int, eq_self, and_true, true_and, ite_self, true_or, or_true, false_or, or_false, and_false, false_and, not_true_eq_false, not_false_eq_true, if_true, if_false, e_R_isHeardOn_0, e_R_isHeardOn_38, e_R_isHeardOn_44, q_callOf, k0, k1, g50, q2]
        rw [e_R_isHeardOn_2]
        simp (disch := first | assumption | omega) only [rn, wk, al, wr_e, td_e, tm_e, mset_eq, mset_ne, if_pos, if_neg, Int.reduceAdd, Int.reduceSub, Int.reduceMul, Int.reduceNeg, Int.reduceLT, Int.reduceLE, Int.reduceEq, Int.cast_ofNat_Int, eq_self, and_true, true_and, ite_self, true_or, or_true, false_or, or_false, and_false, false_and, not_true_eq_false, not_false_eq_true, if_true, if_false, e_R_isHeardOn_0, e_R_isHeardOn_38, e_R_isHeardOn_44]
/-- of so many calls: those that are loud -/
def lo_ (F : Int → Int) : Nat → Int → Nat → Nat
  | 0, _, m => m
  | n + 1, k, m => lo_ F n (k + 1) (if 0 < F k then m + 1 else m)
theorem lo_le (F : Int → Int) : ∀ (n : Nat) (k : Int) (m : Nat), lo_ F n k m ≤ n + m := by
  intro n
  induction n with
  | zero => intro k m; show m ≤ 0 + m; omega
  | succ n ih =>
    intro k m
    have := ih (k + 1) (if 0 < F k then m + 1 else m)
    show lo_ F n (k + 1) (if 0 < F k then m + 1 else m) ≤ n + 1 + m
    split at this <;> rename_i c <;> simp only [c, if_true, if_false] at * <;> omega
theorem pw_b {o : Int} (ho : 0 ≤ o ∧ o ≤ 16) : ∀ (n : Nat), 0 ≤ o ^ n ∧ o ^ n ≤ 16 ^ n := by
  intro n
  induction n with
  | zero => rw [Int.pow_zero, Int.pow_zero]; omega
  | succ n ih =>
    rw [Int.pow_succ, Int.pow_succ]
    have h1 : 0 ≤ o ^ n * o := Int.mul_nonneg ih.1 ho.1
    have h2 : o ^ n * o ≤ o ^ n * 16 := Int.mul_le_mul_of_nonneg_left ho.2 ih.1
    omega
theorem p16_b : ∀ (n : Nat), n ≤ 9 → (0 : Int) < 16 ^ n ∧ (16 : Int) ^ n ≤ 68719476736 := by
  intro n hn
  have : n = 0 ∨ n = 1 ∨ n = 2 ∨ n = 3 ∨ n = 4 ∨ n = 5 ∨ n = 6 ∨ n = 7 ∨ n = 8 ∨ n = 9 := by omega
  rcases this with rfl | rfl | rfl | rfl | rfl | rfl | rfl | rfl | rfl | rfl <;> decide
theorem lp_Mquiet (d : Nat) (A s : Mem) (hA : A = win s 37) (x : Int) (hv : VB A) (hk : vKs A) (hx : 0 ≤ x ∧ x < A 0 3) (Q : Int → Mem → Prop) : ∀ (n : Nat) (k : Int) (m : Nat), 0 ≤ k → k + n = A 0 5 → (m : Int) ≤ k → (∀ m', m' = lo_ (fun k => aS A (A 9 k / 21) (A 5 x)) n k m → EV (d + 4) o_M_quiet 70 [] [0, x, (A 0 0) ^ m', 0, (m' : Int), A 0 5] s Q) → EV (d + 4) o_M_quiet 25 [] [0, x, (A 0 0) ^ m, 0, m, k] s Q := by
  have e5 : s 37 5 = A 0 5 := by rw [hA]; rfl
  have e3 : s 37 3 = A 0 3 := by rw [hA]; rfl
  have e0 : s 37 0 = A 0 0 := by rw [hA]; rfl
  have h1 := hv.1
  unfold VC at h1
  intro n
  induction n with
  | zero =>
    intro k m h0 hk' hm hq
    have ek : k = A 0 5 := by omega
    have hq := hq m rfl
    rw [e_M_quiet_25]
    simp (disch := first | assumption | omega) only [rn, wk, al, wr_e, td_e, tm_e, mset_eq, mset_ne, if_pos, if_neg, Int.reduceAdd, Int.reduceSub, Int.reduceMul, Int.reduceNeg, Int.reduceLT, Int.reduceLE, Int.reduceEq, Int.cast_ofNat_Int, eq_self, and_true, true_and, ite_self, true_or, or_true, false_or, or_false, and_false, false_and, not_true_eq_false, not_false_eq_true, if_true, if_false, e5]
    rw [ek]; exact hq
  | succ n ih =>
    intro k m h0 hk' hm hq
    have q : sem (d + 4) 194 [37, k, x] s = some (if 0 < aS A (A 9 k / 21) (A 5 x) then 1 else 0, s) := by
      have := q_isLoudOn d isH37 s k x (by rw [← hA]; exact hv) (by omega) (by have := hk k (by omega); rw [hA] at this; exact this) (by omega)
      rw [hA]; exact this
    rw [e_M_quiet_25]
    by_cases c : 0 < aS A (A 9 k / 21) (A 5 x)
    · have hb := pw_b (o := A 0 0) h1.1 (m + 1)
      have hb2 := p16_b (m + 1) (by omega)
      have hi := ih (k + 1) (m + 1) (by omega) (by omega) (by omega) (fun m' hm' => hq m' (by unfold lo_; simp only [if_pos c]; exact hm'))
      rw [Int.pow_succ] at hb hi
      rw [show ((m + 1 : Nat) : Int) = (m : Int) + 1 by omega] at hi
      simp (disch := first | assumption | omega) only [rn, wk, al, wr_e, td_e, tm_e, mset_eq, mset_ne, if_pos, if_neg, Int.reduceAdd, Int.reduceSub, Int.reduceMul, Int.reduceNeg, Int.reduceLT, Int.reduceLE, Int.reduceEq, Int.cast_ofNat_Int, eq_self, and_true, true_and, ite_self, true_or, or_true, false_or, or_false, and_false, false_and, not_true_eq_false, not_false_eq_true, if_true, if_false, e_M_quiet_0, e_M_quiet_17, e_M_quiet_64, q, e5, e0, wl_e]
      exact hi
    · have hi := ih (k + 1) m (by omega) (by omega) (by omega) (fun m' hm' => hq m' (by unfold lo_; simp only [if_neg c]; exact hm'))
      simp (disch := first | assumption | omega) only [rn, wk, al, wr_e, td_e, tm_e, mset_eq, mset_ne, if_pos, if_neg, Int.reduceAdd, Int.reduceSub, Int.reduceMul, Int.reduceNeg, Int.reduceLT, Int.reduceLE, Int.reduceEq, Int.cast_ofNat_Int, eq_self, and_true, true_and, ite_self, true_or, or_true, false_or, or_false, and_false, false_and, not_true_eq_false, not_false_eq_true, if_true, if_false, e_M_quiet_0, e_M_quiet_17, e_M_quiet_64, q, e5, e0]
      exact hi
theorem lp_Rquiet (d : Nat) (A s : Mem) (x : Int) (h : RB A s) (hk : RK A (s 138)) (hx : 0 ≤ x ∧ x < A 0 3) (Q : Int → Mem → Prop) : ∀ (n : Nat) (k : Int) (m : Nat), 0 ≤ k → k + n = A 0 5 → (m : Int) ≤ k → (∀ m', m' = lo_ (fun k => aS A (A 9 k / 21) (A 5 x)) n k m → EV (d + 4) o_R_quiet 74 [] [137, x, (A 0 0) ^ m', 0, 16 ^ m', 0, A 0 5] s Q) → EV (d + 4) o_R_quiet 26 [] [137, x, (A 0 0) ^ m, 0, 16 ^ m, 0, k] s Q := by
  have e5 : s 138 4 = A 0 5 := h.2.1.2.2.2.2.1
  have e0 : s 138 5 = A 0 0 := h.2.1.2.2.2.2.2.1
  have h1 := h.1.1
  unfold VC at h1
  intro n
  induction n with
  | zero =>
    intro k m h0 hk' hm hq
    have ek : k = A 0 5 := by omega
    have hq := hq m rfl
    rw [e_R_quiet_26]
    simp (disch := first | assumption | omega) only [rn, wk, al, wr_e, td_e, tm_e, mset_eq, mset_ne, if_pos, if_neg, Int.reduceAdd, Int.reduceSub, Int.reduceMul, Int.reduceNeg, Int.reduceLT, Int.reduceLE, Int.reduceEq, Int.cast_ofNat_Int, eq_self, and_true, true_and, ite_self, true_or, or_true, false_or, or_false, and_false, false_and, not_true_eq_false, not_false_eq_true, if_true, if_false, e5]
    rw [ek]; exact hq
  | succ n ih =>
    intro k m h0 hk' hm hq
    have q := q_isHeardOn d A s h hk k x (by omega) hx
    rw [e_R_quiet_26]
    by_cases c : 0 < aS A (A 9 k / 21) (A 5 x)
    · have hb := pw_b (o := A 0 0) h1.1 (m + 1)
      have hb2 := p16_b (m + 1) (by omega)
      have hi := ih (k + 1) (m + 1) (by omega) (by omega) (by omega) (fun m' hm' => hq m' (by unfold lo_; simp only [if_pos c]; exact hm'))
      rw [Int.pow_succ, Int.pow_succ] at hb hi
      rw [Int.pow_succ] at hb2
      simp (disch := first | assumption | omega) only [rn, wk, al, wr_e, td_e, tm_e, mset_eq, mset_ne, if_pos, if_neg, Int.reduceAdd, Int.reduceSub, Int.reduceMul, Int.reduceNeg, Int.reduceLT, Int.reduceLE, Int.reduceEq, Int.cast_ofNat_Int, eq_self, and_true, true_and, ite_self, true_or, or_true, false_or, or_false, and_false, false_and, not_true_eq_false, not_false_eq_true, if_true, if_false, e_R_quiet_0, e_R_quiet_14, e_R_quiet_50, e_R_quiet_68, q, e5, e0, wl_e]
      exact hi
    · have hi := ih (k + 1) m (by omega) (by omega) (by omega) (fun m' hm' => hq m' (by unfold lo_; simp only [if_neg c]; exact hm'))
      simp (disch := first | assumption | omega) only [rn, wk, al, wr_e, td_e, tm_e, mset_eq, mset_ne, if_pos, if_neg, Int.reduceAdd, Int.reduceSub, Int.reduceMul, Int.reduceNeg, Int.reduceLT, Int.reduceLE, Int.reduceEq, Int.cast_ofNat_Int, eq_self, and_true, true_and, ite_self, true_or, or_true, false_or, or_false, and_false, false_and, not_true_eq_false, not_false_eq_true, if_true, if_false, e_R_quiet_0, e_R_quiet_14, e_R_quiet_50, e_R_quiet_68, q, e5, e0]
      exact hi
theorem ak_quiet (d : Nat) (x : Int) : Ak (d + 30) 193 354 [x] := by
  apply ak_of; intro s hi
  have hc := inv_c hi
  have hr := inv_rc hi
  have hv := VB_of (inv_va hi)
  have hk := vKs_of hi.2.2.2.2.1
  by_cases c1 : 0 ≤ x ∧ x < s 37 3
  · apply c_M_quiet
    simp (disch := first | assumption | omega) only [rn, wk, al, wr_e, td_e, tm_e, mset_eq, mset_ne, if_pos, if_neg, Int.reduceAdd, Int.reduceSub, Int.reduceMul, Int.reduceNeg, Int.reduceLT, Int.reduceLE, Int.reduceEq, Int.cast_ofNat_Int, eq_self, and_true, true_and, ite_self, true_or, or_true, false_or, or_false, and_false, false_and, not_true_eq_false, not_false_eq_true, if_true, if_false, e_M_quiet_0, e_M_quiet_17, e_M_quiet_64, q_hasSlate]
    have hl := lp_Mquiet (d + 25) (win s 37) s rfl x hv hk c1 (fun r t => CV (d + 30) 354 [137, x] t fun r' u => r' = r ∧ Inv u) (s 37 5).toNat 0 0 (by omega) (show (0 : Int) + ((s 37 5).toNat : Nat) = s 37 5 by omega) (by omega) ?_
    · rw [Int.pow_zero] at hl; exact hl
    · intro m hm
      have hm8 := lo_le (fun k => aS (win s 37) (win s 37 9 k / 21) (win s 37 5 x)) (s 37 5).toNat 0 0
      rw [← hm] at hm8
      have hb := pw_b (o := win s 37 0 0) hc.1 m
      have hb2 := p16_b m (by omega)
      have q16 := q_sixteens (d + 28) (m : Int) s (by omega)
      rw [show ((m : Int)).toNat = m by omega] at q16
      have qt := q_tell (d + 27) s (win s 37 0 0 ^ m) (16 ^ m) (by omega) (by omega)
      rw [e_M_quiet_70]
      simp (disch := first | assumption | omega) only [rn, wk, al, wr_e, td_e, tm_e, mset_eq, mset_ne, if_pos, if_neg, Int.reduceAdd, Int.reduceSub, Int.reduceMul, Int.reduceNeg, Int.reduceLT, Int.reduceLE, Int.reduceEq, Int.cast_ofNat_Int, eq_self, and_true, true_and, ite_self, true_or, or_true, false_or, or_false, and_false, false_and, not_true_eq_false, not_false_eq_true, if_true, if_false, q16, qt, q_grant]
      apply c_R_quiet
      simp (disch := first | assumption | omega) only [rn, wk, al, wr_e, td_e, tm_e, mset_eq, mset_ne, if_pos, if_neg, Int.reduceAdd, Int.reduceSub, Int.reduceMul, Int.reduceNeg, Int.reduceLT, Int.reduceLE, Int.reduceEq, Int.cast_ofNat_Int, eq_self, and_true, true_and, ite_self, true_or, or_true, false_or, or_false, and_false, false_and, not_true_eq_false, not_false_eq_true, if_true, if_false, e_R_quiet_0, e_R_quiet_50, e_R_quiet_68, e_R_quiet_74, q_isSlate]
      rw [e_R_quiet_14]
      simp (disch := first | assumption | omega) only [rn, wk, al, wr_e, td_e, tm_e, mset_eq, mset_ne, if_pos, if_neg, Int.reduceAdd, Int.reduceSub, Int.reduceMul, Int.reduceNeg, Int.reduceLT, Int.reduceLE, Int.reduceEq, Int.cast_ofNat_Int, eq_self, and_true, true_and, ite_self, true_or, or_true, false_or, or_false, and_false, false_and, not_true_eq_false, not_false_eq_true, if_true, if_false]
      refine EV_call (CV_mono (far_nf hi _ (t := mset (mset (mset s 0 1 (win s 37 0 0 ^ m / eu 200 (win s 37 0 0 ^ m) (16 ^ m))) 0 2 (16 ^ m / eu 200 (win s 37 0 0 ^ m) (16 ^ m))) 0 0 0) (by rw [mset_nc (by omega), mset_nc (by omega), mset_nc (by omega)])) ?_)
      rintro r u ⟨u1, u2⟩
      have e138 : u 138 = s 138 := by funext i; rw [u1 _ _ (by omega), mset_ne (by omega), mset_ne (by omega), mset_ne (by omega)]
      have hH := hi.2.2.2.2.1
      have hR : RB (win s 37) u := ⟨hv, by rw [e138]; exact hH.2.1, by rw [e138]; exact hH.2.2.2.1, by rw [e138]; exact hH.2.2.2.2.1, u2⟩
      have hl2 := lp_Rquiet (d + 25) (win s 37) u x hR (by rw [e138]; exact hH.2.2.2.2.2.1) c1 (fun r' u => r' = 1 ∧ Inv u) (s 37 5).toNat 0 0 (by omega) (show (0 : Int) + ((s 37 5).toNat : Nat) = s 37 5 by omega) (by omega) ?_
      · rw [Int.pow_zero, Int.pow_zero] at hl2; exact hl2
      · intro m' hm'
        rw [← hm] at hm'
        subst hm'
        have qt2 := q_tellsBy (d + 27) u (win s 37 0 0 ^ m') (16 ^ m') (by omega) (by omega)
        rw [e_R_quiet_74]
        simp (disch := first | assumption | omega) only [rn, wk, al, wr_e, td_e, tm_e, mset_eq, mset_ne, if_pos, if_neg, Int.reduceAdd, Int.reduceSub, Int.reduceMul, Int.reduceNeg, Int.reduceLT, Int.reduceLE, Int.reduceEq, Int.cast_ofNat_Int, eq_self, and_true, true_and, ite_self, true_or, or_true, false_or, or_false, and_false, false_and, not_true_eq_false, not_false_eq_true, if_true, if_false, qt2]
        exact inv_tell _ _ hi (Fx_refl s 2) rfl (fun c i a b e => u1 c i b)
  · apply c_M_quiet
    simp (disch := first | assumption | omega) only [rn, wk, al, wr_e, td_e, tm_e, mset_eq, mset_ne, if_pos, if_neg, Int.reduceAdd, Int.reduceSub, Int.reduceMul, Int.reduceNeg, Int.reduceLT, Int.reduceLE, Int.reduceEq, Int.cast_ofNat_Int, eq_self, and_true, true_and, ite_self, true_or, or_true, false_or, or_false, and_false, false_and, not_true_eq_false, not_false_eq_true, if_true, if_false, e_M_quiet_0, e_M_quiet_17, e_M_quiet_64, e_M_quiet_70, q_hasSlate, q_deny]
    apply c_R_quiet
    simp (disch := first | assumption | omega) only [rn, wk, al, wr_e, td_e, tm_e, mset_eq, mset_ne, if_pos, if_neg, Int.reduceAdd, Int.reduceSub, Int.reduceMul, Int.reduceNeg, Int.reduceLT, Int.reduceLE, Int.reduceEq, Int.cast_ofNat_Int, eq_self, and_true, true_and, ite_self, true_or, or_true, false_or, or_false, and_false, false_and, not_true_eq_false, not_false_eq_true, if_true, if_false, e_R_quiet_0, e_R_quiet_14, e_R_quiet_50, e_R_quiet_68, e_R_quiet_74, q_isSlate, q_is]
    exact inv_st 1 hi
