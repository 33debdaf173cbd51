/-! ===== H2: the class's sums ===== -/
theorem sg_last {f : Int → Int} : ∀ (n : Nat) (k : Int), sg f k (n + 1) = sg f k n + f (k + n) := by
  intro n
  induction n with
  | zero => intro k; show f k + 0 = 0 + f (k + 0); rw [Int.add_zero, Int.add_zero, Int.zero_add]
  | succ n ih =>
    intro k
    show f k + sg f (k + 1) (n + 1) = (f k + sg f (k + 1) n) + f (k + (n + 1 : Nat))
    rw [ih (k + 1), show k + 1 + (n : Int) = k + ((n + 1 : Nat) : Int) by omega]; omega
theorem sg_bd {f : Int → Int} {m : Int} : ∀ (n : Nat) (k : Int), (∀ i, k ≤ i → i < k + n → 0 ≤ f i ∧ f i ≤ m) → 0 ≤ sg f k n ∧ sg f k n ≤ m * n := by
  intro n
  induction n with
  | zero => intro k h; show (0 : Int) ≤ 0 ∧ 0 ≤ m * 0; rw [Int.mul_zero]; omega
  | succ n ih =>
    intro k h
    have h1 := ih (k + 1) (fun i a b => h i (by omega) (by omega))
    have h2 := h k (by omega) (by omega)
    show 0 ≤ f k + sg f (k + 1) n ∧ f k + sg f (k + 1) n ≤ m * ((n + 1 : Nat) : Int)
    rw [show ((n + 1 : Nat) : Int) = (n : Int) + 1 by omega, Int.mul_add, Int.mul_one]
    omega
/-- all calls of the hall may be -/
def vKs (A : Mem) : Prop := ∀ k, 0 ≤ k ∧ k < A 0 5 → vK A (A 9 k)
theorem vKs_of {A : Mem} {B N : Int → Int} (hr : HR A B N) : vKs A := by
  intro k hk
  have h := hr.2.2.2.2.2.1 k hk
  have hc := hr.1.1
  unfold VC at hc
  have hl := (hr.1.2.2.2.1 _ h.2.1).2.1
  have e1 : A 9 k / 21 / 3 = B (109 + 3 * k) := by omega
  have e2 : A 9 k / 21 % 3 = B (110 + 3 * k) := by omega
  refine ⟨by omega, by omega, by omega, by omega, ?_, ?_⟩
  · rw [e1]; exact h.2.1.2
  · rw [e1, e2]; exact h.2.2.1.2
theorem lp_sumAt (d : Nat) {h : Int} (hh : isH h) (s : Mem) (x b : Int) (hv : VB (win s h)) (hvk : vKs (win s h)) (hx : 0 ≤ x ∧ x < s h 3) (hb : 0 ≤ b ∧ b ≤ 90) (Q : Int → Mem → Prop) : ∀ (n : Nat) (k a : Int), 0 ≤ k → k + n = s h 5 → (0 ≤ a ∧ a ≤ 99 * k) → Q (a + sg (fun k => pt (win s h) (s (h + 9) k) x b) k n) s → EV (d + 3) o_Hall_sumAt 5 [] [h, x, b, a, k] s Q := by
  have h1 := hv.1
  unfold VC at h1
  simp only [win, Int.add_zero] at h1
  intro n
  induction n with
  | zero =>
    intro k a h0 hk ha hq
    rw [e_Hall_sumAt_5]
    simp (disch := first | assumption | omega) only [rn, wk, al, wr_e, td_e, tm_e, mset_eq, mset_ne, if_pos, if_neg, Int.reduceAdd, Int.reduceSub, Int.reduceMul, Int.reduceNeg, Int.reduceLT, Int.reduceLE, Int.reduceEq, Int.cast_ofNat_Int, eq_self, and_true, true_and, ite_self, true_or, or_true, false_or, or_false, and_false, false_and, not_true_eq_false, not_false_eq_true, if_true, if_false, e_Hall_sumAt_0, e_Hall_sumAt_31]
    rw [show a = a + sg (fun k => pt (win s h) (s (h + 9) k) x b) k 0 from (Int.add_zero a).symm]
    exact hq
  | succ n ih =>
    intro k a h0 hk ha hq
    have hvk1 : vK (win s h) (s (h + 9) k) := hvk k (by simp only [win, Int.add_zero]; omega)
    have hp := pt_ok hv (x := x) (b := b) hvk1 (by simp only [win, Int.add_zero]; exact hx)
    have qa := q_amountAt d hh s k x b hv (by omega) hvk1 hx hb
    rw [e_Hall_sumAt_5]
    simp (disch := first | assumption | omega) only [rn, wk, al, wr_e, td_e, tm_e, mset_eq, mset_ne, if_pos, if_neg, Int.reduceAdd, Int.reduceSub, Int.reduceMul, Int.reduceNeg, Int.reduceLT, Int.reduceLE, Int.reduceEq, Int.cast_ofNat_Int, eq_self, and_true, true_and, ite_self, true_or, or_true, false_or, or_false, and_false, false_and, not_true_eq_false, not_false_eq_true, if_true, if_false, qa]
    refine ih (k + 1) (a + pt (win s h) (s (h + 9) k) x b) (by omega) (by omega) (by omega) ?_
    rw [Int.add_assoc]
    exact hq
theorem q_sumAt (d : Nat) {h : Int} (hh : isH h) (s : Mem) (x b : Int) (hv : VB (win s h)) (hvk : vKs (win s h)) (hx : 0 ≤ x ∧ x < s h 3) (hb : 0 ≤ b ∧ b ≤ 90) : sem (d + 4) 128 [h, x, b] s = some (sb (win s h) x b, s) := by
  have h1 := hv.1
  unfold VC at h1
  simp only [win, Int.add_zero] at h1
  apply CV_eq; apply c_Hall_sumAt
  simp (disch := first | assumption | omega) only [rn, wk, al, wr_e, td_e, tm_e, mset_eq, mset_ne, if_pos, if_neg, Int.reduceAdd, Int.reduceSub, Int.reduceMul, Int.reduceNeg, Int.reduceLT, Int.reduceLE, Int.reduceEq, Int.cast_ofNat_Int, eq_self, and_true, true_and, ite_self, true_or, or_true, false_or, or_false, and_false, false_and, not_true_eq_false, not_false_eq_true, if_true, if_false, e_Hall_sumAt_0, e_Hall_sumAt_31]
  refine lp_sumAt d hh s x b hv hvk hx hb _ (s h 5).toNat 0 0 (by omega) (by omega) (by omega) ⟨?_, rfl⟩
  unfold sb
  simp only [win, Int.add_zero, Int.zero_add]
def aS (A : Mem) (q p : Int) : Int := aP A q p 0 + aP A q p 1 + aP A q p 2
theorem q_allOfCall (d : Nat) {h : Int} (hh : isH h) (s : Mem) (k x : Int) (hv : VB (win s h)) (hk : 0 ≤ k ∧ k < s h 5) (hvk : vK (win s h) (s (h + 9) k)) (hx : 0 ≤ x ∧ x < s h 3) : sem (d + 3) 122 [h, k, x] s = some (aS (win s h) (s (h + 9) k / 21) (s (h + 5) x), s) := by
  apply CV_eq; apply c_Hall_allOfCall
  have h1 := hv.1
  unfold VC at h1
  simp only [win, Int.add_zero] at h1
  have hq := hvk.2.2
  have hc0 := vQ_c hq
  have hc : 0 ≤ s (h + 9) k / 63 ∧ s (h + 9) k / 63 < s h 4 := by
    simp only [win, Int.add_zero] at hc0; omega
  have hv0 : 0 ≤ s (h + 9) k ∧ s (h + 9) k < 315 := ⟨hvk.1, hvk.2.1⟩
  have hp : 0 ≤ s (h + 5) x ∧ s (h + 5) x < win s h 0 1 := hv.2.1 x (by simp only [win, Int.add_zero]; exact hx)
  have hd := (dP_ok hv (c := s (h + 9) k / 63) (p := s (h + 5) x) (by simp only [win, Int.add_zero]; exact hc) hp).2
  have e3 : s (h + 9) k / 21 / 3 = s (h + 9) k / 63 := by omega
  have hd0 : 0 ≤ dP (win s h) (s (h + 9) k / 63) (s (h + 5) x) ∧ dP (win s h) (s (h + 9) k / 63) (s (h + 5) x) ≤ 10000000 := by
    rcases hd with q | ⟨u, w, q⟩ <;> omega
  have hcall := q_callerOf (d + 0) hh k s (by omega) hv0
  have hdist := q_distanceToSlate (d + 0) hh (s (h + 9) k / 63) x s hv hc hx
  have n0 : 0 ≤ s (h + 8) (3 * (s (h + 9) k / 21) + 0) ∧ s (h + 8) (3 * (s (h + 9) k / 21) + 0) ≤ 99 := nb_ok hv hq (by omega)
  have n1 : 0 ≤ s (h + 8) (3 * (s (h + 9) k / 21) + 1) ∧ s (h + 8) (3 * (s (h + 9) k / 21) + 1) ≤ 99 := nb_ok hv hq (by omega)
  have n2 : 0 ≤ s (h + 8) (3 * (s (h + 9) k / 21) + 2) ∧ s (h + 8) (3 * (s (h + 9) k / 21) + 2) ≤ 99 := nb_ok hv hq (by omega)
  have eS : aS (win s h) (s (h + 9) k / 21) (s (h + 5) x) = if dP (win s h) (s (h + 9) k / 63) (s (h + 5) x) < 10000000 then max 0 (s (h + 8) (3 * (s (h + 9) k / 21) + 0) - dP (win s h) (s (h + 9) k / 63) (s (h + 5) x) % 1000) + max 0 (s (h + 8) (3 * (s (h + 9) k / 21) + 1) - dP (win s h) (s (h + 9) k / 63) (s (h + 5) x) % 1000) + max 0 (s (h + 8) (3 * (s (h + 9) k / 21) + 2) - dP (win s h) (s (h + 9) k / 63) (s (h + 5) x) % 1000) else 0 := by
    unfold aS aP
    rw [e3]
    split <;> rfl
  rw [eS]
  generalize dP (win s h) (s (h + 9) k / 63) (s (h + 5) x) = D at *
  by_cases c1 : D < 10000000
  · simp (disch := first | assumption | omega) only [rn, wk, al, wr_e, td_e, tm_e, mset_eq, mset_ne, if_pos, if_neg, Int.reduceAdd, Int.reduceSub, Int.reduceMul, Int.reduceNeg, Int.reduceLT, Int.reduceLE, Int.reduceEq, Int.cast_ofNat_Int, eq_self, and_true, true_and, ite_self, true_or, or_true, false_or, or_false, and_false, false_and, not_true_eq_false, not_false_eq_true, if_true, if_false, e_Hall_allOfCall_0, e_Hall_allOfCall_19, e_Hall_allOfCall_57, hcall, hdist]
    rw [e_Hall_allOfCall_25]
    simp (disch := first | assumption | omega) only [rn, wk, al, wr_e, td_e, tm_e, mset_eq, mset_ne, if_pos, if_neg, Int.reduceAdd, Int.reduceSub, Int.reduceMul, Int.reduceNeg, Int.reduceLT, Int.reduceLE, Int.reduceEq, Int.cast_ofNat_Int, eq_self, and_true, true_and, ite_self, true_or, or_true, false_or, or_false, and_false, false_and, not_true_eq_false, not_false_eq_true, if_true, if_false, q_kindOf _ hh, q_lossOf, q_amount _ hh]
    rw [e_Hall_allOfCall_25]
    simp (disch := first | assumption | omega) only [rn, wk, al, wr_e, td_e, tm_e, mset_eq, mset_ne, if_pos, if_neg, Int.reduceAdd, Int.reduceSub, Int.reduceMul, Int.reduceNeg, Int.reduceLT, Int.reduceLE, Int.reduceEq, Int.cast_ofNat_Int, eq_self, and_true, true_and, ite_self, true_or, or_true, false_or, or_false, and_false, false_and, not_true_eq_false, not_false_eq_true, if_true, if_false, q_kindOf _ hh, q_lossOf, q_amount _ hh]
    rw [e_Hall_allOfCall_25]
    simp (disch := first | assumption | omega) only [rn, wk, al, wr_e, td_e, tm_e, mset_eq, mset_ne, if_pos, if_neg, Int.reduceAdd, Int.reduceSub, Int.reduceMul, Int.reduceNeg, Int.reduceLT, Int.reduceLE, Int.reduceEq, Int.cast_ofNat_Int, eq_self, and_true, true_and, ite_self, true_or, or_true, false_or, or_false, and_false, false_and, not_true_eq_false, not_false_eq_true, if_true, if_false, q_kindOf _ hh, q_lossOf, q_amount _ hh]
    rw [e_Hall_allOfCall_25]
    simp (disch := first | assumption | omega) only [rn, wk, al, wr_e, td_e, tm_e, mset_eq, mset_ne, if_pos, if_neg, Int.reduceAdd, Int.reduceSub, Int.reduceMul, Int.reduceNeg, Int.reduceLT, Int.reduceLE, Int.reduceEq, Int.cast_ofNat_Int, eq_self, and_true, true_and, ite_self, true_or, or_true, false_or, or_false, and_false, false_and, not_true_eq_false, not_false_eq_true, if_true, if_false, e_Hall_allOfCall_0, e_Hall_allOfCall_19, e_Hall_allOfCall_57]
    omega
  · simp (disch := first | assumption | omega) only [rn, wk, al, wr_e, td_e, tm_e, mset_eq, mset_ne, if_pos, if_neg, Int.reduceAdd, Int.reduceSub, Int.reduceMul, Int.reduceNeg, Int.reduceLT, Int.reduceLE, Int.reduceEq, Int.cast_ofNat_Int, eq_self, and_true, true_and, ite_self, true_or, or_true, false_or, or_false, and_false, false_and, not_true_eq_false, not_false_eq_true, if_true, if_false, e_Hall_allOfCall_0, e_Hall_allOfCall_19, e_Hall_allOfCall_57, hcall, hdist]
theorem aS_ok {A : Mem} (hv : VB A) {q p : Int} (hq : vQ A q) (hp : 0 ≤ p ∧ p < A 0 1) : 0 ≤ aS A q p ∧ aS A q p ≤ 297 := by
  have h0 := aP_ok hv hq hp (i := 0) (by omega)
  have h1 := aP_ok hv hq hp (i := 1) (by omega)
  have h2 := aP_ok hv hq hp (i := 2) (by omega)
  unfold aS; omega
def tO (A : Mem) (x : Int) : Int := sg (fun k => aS A (A 9 k / 21) (A 5 x)) 0 (A 0 5).toNat
theorem lp_totalOn (d : Nat) {h : Int} (hh : isH h) (s : Mem) (x : Int) (hv : VB (win s h)) (hvk : vKs (win s h)) (hx : 0 ≤ x ∧ x < s h 3) (Q : Int → Mem → Prop) : ∀ (n : Nat) (k a : Int), 0 ≤ k → k + n = s h 5 → (0 ≤ a ∧ a ≤ 297 * k) → Q (a + sg (fun k => aS (win s h) (s (h + 9) k / 21) (s (h + 5) x)) k n) s → EV (d + 3) o_Hall_totalOn 4 [] [h, x, a, k] s Q := by
  have h1 := hv.1
  unfold VC at h1
  simp only [win, Int.add_zero] at h1
  intro n
  induction n with
  | zero =>
    intro k a h0 hk ha hq
    rw [e_Hall_totalOn_4]
    simp (disch := first | assumption | omega) only [rn, wk, al, wr_e, td_e, tm_e, mset_eq, mset_ne, if_pos, if_neg, Int.reduceAdd, Int.reduceSub, Int.reduceMul, Int.reduceNeg, Int.reduceLT, Int.reduceLE, Int.reduceEq, Int.cast_ofNat_Int, eq_self, and_true, true_and, ite_self, true_or, or_true, false_or, or_false, and_false, false_and, not_true_eq_false, not_false_eq_true, if_true, if_false, e_Hall_totalOn_0, e_Hall_totalOn_27]
    rw [show a = a + sg (fun k => aS (win s h) (s (h + 9) k / 21) (s (h + 5) x)) k 0 from (Int.add_zero a).symm]
    exact hq
  | succ n ih =>
    intro k a h0 hk ha hq
    have hvk1 : vK (win s h) (s (h + 9) k) := hvk k (by simp only [win, Int.add_zero]; omega)
    have hp := aS_ok hv hvk1.2.2 (hv.2.1 x (by simp only [win, Int.add_zero]; exact hx))
    have hp : 0 ≤ aS (win s h) (s (h + 9) k / 21) (s (h + 5) x) ∧ aS (win s h) (s (h + 9) k / 21) (s (h + 5) x) ≤ 297 := hp
    have qa := q_allOfCall d hh s k x hv (by omega) hvk1 hx
    rw [e_Hall_totalOn_4]
    simp (disch := first | assumption | omega) only [rn, wk, al, wr_e, td_e, tm_e, mset_eq, mset_ne, if_pos, if_neg, Int.reduceAdd, Int.reduceSub, Int.reduceMul, Int.reduceNeg, Int.reduceLT, Int.reduceLE, Int.reduceEq, Int.cast_ofNat_Int, eq_self, and_true, true_and, ite_self, true_or, or_true, false_or, or_false, and_false, false_and, not_true_eq_false, not_false_eq_true, if_true, if_false, qa]
    refine ih (k + 1) (a + aS (win s h) (s (h + 9) k / 21) (s (h + 5) x)) (by omega) (by omega) (by omega) ?_
    rw [Int.add_assoc]
    exact hq
theorem q_totalOn (d : Nat) {h : Int} (hh : isH h) (s : Mem) (x : Int) (hv : VB (win s h)) (hvk : vKs (win s h)) (hx : 0 ≤ x ∧ x < s h 3) : sem (d + 4) 121 [h, x] s = some (tO (win s h) x, s) := by
  have h1 := hv.1
  unfold VC at h1
  simp only [win, Int.add_zero] at h1
  apply CV_eq; apply c_Hall_totalOn
  simp (disch := first | assumption | omega) only [rn, wk, al, wr_e, td_e, tm_e, mset_eq, mset_ne, if_pos, if_neg, Int.reduceAdd, Int.reduceSub, Int.reduceMul, Int.reduceNeg, Int.reduceLT, Int.reduceLE, Int.reduceEq, Int.cast_ofNat_Int, eq_self, and_true, true_and, ite_self, true_or, or_true, false_or, or_false, and_false, false_and, not_true_eq_false, not_false_eq_true, if_true, if_false, e_Hall_totalOn_0, e_Hall_totalOn_27]
  refine lp_totalOn d hh s x hv hvk hx _ (s h 5).toNat 0 0 (by omega) (by omega) (by omega) ⟨?_, rfl⟩
  unfold tO
  simp only [win, Int.add_zero, Int.zero_add]
theorem tO_ok {A : Mem} (hv : VB A) (hvk : vKs A) {x : Int} (hx : 0 ≤ x ∧ x < A 0 3) : 0 ≤ tO A x ∧ tO A x ≤ 2376 := by
  have h1 := hv.1
  unfold VC at h1
  have := sg_bd (f := fun k => aS A (A 9 k / 21) (A 5 x)) (m := 297) (A 0 5).toNat 0 (fun i a b => aS_ok hv (hvk i (by omega)).2.2 (hv.2.1 x hx))
  unfold tO
  omega
theorem lp_total (d : Nat) {h : Int} (hh : isH h) (s : Mem) (hv : VB (win s h)) (hvk : vKs (win s h)) (Q : Int → Mem → Prop) : ∀ (n : Nat) (k a : Int), 0 ≤ k → k + n = s h 3 → (0 ≤ a ∧ a ≤ 2376 * k) → Q (a + sg (tO (win s h)) k n) s → EV (d + 4) o_Hall_total 4 [] [h, a, k] s Q := by
  have h1 := hv.1
  unfold VC at h1
  simp only [win, Int.add_zero] at h1
  intro n
  induction n with
  | zero =>
    intro k a h0 hk ha hq
    rw [e_Hall_total_4]
    simp (disch := first | assumption | omega) only [rn, wk, al, wr_e, td_e, tm_e, mset_eq, mset_ne, if_pos, if_neg, Int.reduceAdd, Int.reduceSub, Int.reduceMul, Int.reduceNeg, Int.reduceLT, Int.reduceLE, Int.reduceEq, Int.cast_ofNat_Int, eq_self, and_true, true_and, ite_self, true_or, or_true, false_or, or_false, and_false, false_and, not_true_eq_false, not_false_eq_true, if_true, if_false, e_Hall_total_0, e_Hall_total_26]
    rw [show a = a + sg (tO (win s h)) k 0 from (Int.add_zero a).symm]
    exact hq
  | succ n ih =>
    intro k a h0 hk ha hq
    have hp := tO_ok hv hvk (x := k) (by simp only [win, Int.add_zero]; omega)
    have qa := q_totalOn d hh s k hv hvk (by omega)
    rw [e_Hall_total_4]
    simp (disch := first | assumption | omega) only [rn, wk, al, wr_e, td_e, tm_e, mset_eq, mset_ne, if_pos, if_neg, Int.reduceAdd, Int.reduceSub, Int.reduceMul, Int.reduceNeg, Int.reduceLT, Int.reduceLE, Int.reduceEq, Int.cast_ofNat_Int, eq_self, and_true, true_and, ite_self, true_or, or_true, false_or, or_false, and_false, false_and, not_true_eq_false, not_false_eq_true, if_true, if_false, qa]
    refine ih (k + 1) (a + tO (win s h) k) (by omega) (by omega) (by omega) ?_
    rw [Int.add_assoc]
    exact hq
theorem q_total (d : Nat) {h : Int} (hh : isH h) (s : Mem) (hv : VB (win s h)) (hvk : vKs (win s h)) : sem (d + 5) 120 [h] s = some (sg (tO (win s h)) 0 (s h 3).toNat, s) := by
  have h1 := hv.1
  unfold VC at h1
  simp only [win, Int.add_zero] at h1
  apply CV_eq; apply c_Hall_total
  simp (disch := first | assumption | omega) only [rn, wk, al, wr_e, td_e, tm_e, mset_eq, mset_ne, if_pos, if_neg, Int.reduceAdd, Int.reduceSub, Int.reduceMul, Int.reduceNeg, Int.reduceLT, Int.reduceLE, Int.reduceEq, Int.cast_ofNat_Int, eq_self, and_true, true_and, ite_self, true_or, or_true, false_or, or_false, and_false, false_and, not_true_eq_false, not_false_eq_true, if_true, if_false, e_Hall_total_0, e_Hall_total_26]
  refine lp_total d hh s hv hvk _ (s h 3).toNat 0 0 (by omega) (by omega) (by omega) ⟨?_, rfl⟩
  simp only [Int.zero_add]
