/-! ===== H2: cries and calls ===== -/
def sg (f : Int → Int) : Int → Nat → Int
  | _, 0 => 0
  | k, n + 1 => f k + sg f (k + 1) n
theorem sg_congr {f g : Int → Int} : ∀ (n : Nat) (k : Int), (∀ i, k ≤ i → i < k + n → f i = g i) → sg f k n = sg g k n := by
  intro n
  induction n with
  | zero => intros; rfl
  | succ n ih =>
    intro k h
    show f k + sg f (k + 1) n = g k + sg g (k + 1) n
    rw [h k (by omega) (by omega), ih (k + 1) (fun i h1 h2 => h i (by omega) (by omega))]
theorem lp_allCries (d : Nat) {h : Int} (hh : isH h) (s : Mem) (h4 : 0 ≤ s h 4 ∧ s h 4 ≤ 5) (hv : ∀ c, 0 ≤ c ∧ c < s h 4 → 0 ≤ s (h + 7) c ∧ s (h + 7) c ≤ 3) (Q : Int → Mem → Prop) : ∀ (n : Nat) (k a : Int), 0 ≤ k → k + n = s h 4 → (0 ≤ a ∧ a ≤ 3 * k) → Q (a + sg (s (h + 7)) k n) s → EV d o_Hall_allCries 4 [] [h, a, k] s Q := by
  intro n
  induction n with
  | zero =>
    intro k a h0 hk ha hq
    rw [e_Hall_allCries_4]
    simp (disch := first | assumption | omega) only [rn, wk, al, wr_e, td_e, tm_e, mset_eq, mset_ne, if_pos, if_neg, Int.reduceAdd, Int.reduceSub, Int.reduceMul, Int.reduceNeg, Int.reduceLT, Int.reduceLE, Int.reduceEq, Int.cast_ofNat_Int, eq_self, and_true, true_and, ite_self, true_or, or_true, false_or, or_false, and_false, false_and, not_true_eq_false, not_false_eq_true, if_true, if_false, e_Hall_allCries_0, e_Hall_allCries_27, ah hh]
    rw [show a = a + sg (s (h + 7)) k 0 from (Int.add_zero a).symm]
    exact hq
  | succ n ih =>
    intro k a h0 hk ha hq
    have := hv k (by omega)
    rw [e_Hall_allCries_4]
    simp (disch := first | assumption | omega) only [rn, wk, al, wr_e, td_e, tm_e, mset_eq, mset_ne, if_pos, if_neg, Int.reduceAdd, Int.reduceSub, Int.reduceMul, Int.reduceNeg, Int.reduceLT, Int.reduceLE, Int.reduceEq, Int.cast_ofNat_Int, eq_self, and_true, true_and, ite_self, true_or, or_true, false_or, or_false, and_false, false_and, not_true_eq_false, not_false_eq_true, if_true, if_false, e_Hall_allCries_0, e_Hall_allCries_27, ah hh]
    refine ih (k + 1) (a + s (h + 7) k) (by omega) (by omega) (by omega) ?_
    rw [Int.add_assoc]
    exact hq
theorem q_allCries (d : Nat) {h : Int} (hh : isH h) (s : Mem) (h4 : 0 ≤ s h 4 ∧ s h 4 ≤ 5) (hv : ∀ c, 0 ≤ c ∧ c < s h 4 → 0 ≤ s (h + 7) c ∧ s (h + 7) c ≤ 3) : sem (d + 1) 87 [h] s = some (sg (s (h + 7)) 0 (s h 4).toNat, s) := by
  apply CV_eq; apply c_Hall_allCries
  simp (disch := first | assumption | omega) only [rn, wk, al, wr_e, td_e, tm_e, mset_eq, mset_ne, if_pos, if_neg, Int.reduceAdd, Int.reduceSub, Int.reduceMul, Int.reduceNeg, Int.reduceLT, Int.reduceLE, Int.reduceEq, Int.cast_ofNat_Int, eq_self, and_true, true_and, ite_self, true_or, or_true, false_or, or_false, and_false, false_and, not_true_eq_false, not_false_eq_true, if_true, if_false, e_Hall_allCries_0, e_Hall_allCries_27]
  refine lp_allCries d hh s h4 hv _ (s h 4).toNat 0 0 (by omega) (by omega) (by omega) ?_
  exact ⟨by omega, rfl⟩
theorem lp_RallCries (d : Nat) (s : Mem) (h4 : 0 ≤ s 138 3 ∧ s 138 3 ≤ 5) (hv : ∀ c, 0 ≤ c ∧ c < s 138 3 → 0 ≤ s 138 (55 + 11 * c) ∧ s 138 (55 + 11 * c) ≤ 3) (Q : Int → Mem → Prop) : ∀ (n : Nat) (k a : Int), 0 ≤ k → k + n = s 138 3 → (0 ≤ a ∧ a ≤ 3 * k) → Q (a + sg (fun c => s 138 (55 + 11 * c)) k n) s → EV (d + 1) o_R_allCries 4 [] [137, a, k] s Q := by
  intro n
  induction n with
  | zero =>
    intro k a h0 hk ha hq
    rw [e_R_allCries_4]
    simp (disch := first | assumption | omega) only [rn, wk, al, wr_e, td_e, tm_e, mset_eq, mset_ne, if_pos, if_neg, Int.reduceAdd, Int.reduceSub, Int.reduceMul, Int.reduceNeg, Int.reduceLT, Int.reduceLE, Int.reduceEq, Int.cast_ofNat_Int, eq_self, and_true, true_and, ite_self, true_or, or_true, false_or, or_false, and_false, false_and, not_true_eq_false, not_false_eq_true, if_true, if_false, e_R_allCries_0, e_R_allCries_34]
    rw [show a = a + sg (fun c => s 138 (55 + 11 * c)) k 0 from (Int.add_zero a).symm]
    exact hq
  | succ n ih =>
    intro k a h0 hk ha hq
    have := hv k (by omega)
    have e : 54 + 11 * k + 1 = 55 + 11 * k := by omega
    rw [e_R_allCries_4]
    simp (disch := first | assumption | omega) only [rn, wk, al, wr_e, td_e, tm_e, mset_eq, mset_ne, if_pos, if_neg, Int.reduceAdd, Int.reduceSub, Int.reduceMul, Int.reduceNeg, Int.reduceLT, Int.reduceLE, Int.reduceEq, Int.cast_ofNat_Int, eq_self, and_true, true_and, ite_self, true_or, or_true, false_or, or_false, and_false, false_and, not_true_eq_false, not_false_eq_true, if_true, if_false, e_R_allCries_0, e_R_allCries_34, q_callerRow, e]
    refine ih (k + 1) (a + s 138 (55 + 11 * k)) (by omega) (by omega) (by omega) ?_
    rw [Int.add_assoc]
    exact hq
theorem q_RallCries (d : Nat) (s : Mem) (h4 : 0 ≤ s 138 3 ∧ s 138 3 ≤ 5) (hv : ∀ c, 0 ≤ c ∧ c < s 138 3 → 0 ≤ s 138 (55 + 11 * c) ∧ s 138 (55 + 11 * c) ≤ 3) : sem (d + 2) 269 [137] s = some (sg (fun c => s 138 (55 + 11 * c)) 0 (s 138 3).toNat, s) := by
  apply CV_eq; apply c_R_allCries
  simp (disch := first | assumption | omega) only [rn, wk, al, wr_e, td_e, tm_e, mset_eq, mset_ne, if_pos, if_neg, Int.reduceAdd, Int.reduceSub, Int.reduceMul, Int.reduceNeg, Int.reduceLT, Int.reduceLE, Int.reduceEq, Int.cast_ofNat_Int, eq_self, and_true, true_and, ite_self, true_or, or_true, false_or, or_false, and_false, false_and, not_true_eq_false, not_false_eq_true, if_true, if_false, e_R_allCries_0, e_R_allCries_34]
  refine lp_RallCries d s h4 hv _ (s 138 3).toNat 0 0 (by omega) (by omega) (by omega) ?_
  exact ⟨by omega, rfl⟩
theorem ak_told (d : Nat) (w : Int) : Ak (d + 30) 86 268 [w] := by
  apply ak_of; intro s hi
  have hc := inv_c hi
  have hr := inv_rc hi
  by_cases c1 : 0 ≤ w ∧ w ≤ 7
  · obtain rfl | rfl | rfl | rfl | rfl | rfl | rfl | rfl : w = 0 ∨ w = 1 ∨ w = 2 ∨ w = 3 ∨ w = 4 ∨ w = 5 ∨ w = 6 ∨ w = 7 := by omega
    case' inr.inr.inr.inr.inr.inr.inl => by_cases c6 : s 37 6 = 0
    case inr.inr.inr.inr.inr.inr.inr =>
      have hl := inv_vl hi
      have hl2 := inv_rl hi
      have q1 := q_allCries (h := 37) (d + 28) isH37 s hc.2.2.2.2.1 (fun c h => (hl c h).2.1)
      simp only [Int.reduceAdd] at q1
      apply c_M_told
      simp (disch := first | assumption | omega) only [rn, wk, al, wr_e, td_e, tm_e, mset_eq, mset_ne, if_pos, if_neg, Int.reduceAdd, Int.reduceSub, Int.reduceMul, Int.reduceNeg, Int.reduceLT, Int.reduceLE, Int.reduceEq, Int.cast_ofNat_Int, eq_self, and_true, true_and, ite_self, true_or, or_true, false_or, or_false, and_false, false_and, not_true_eq_false, not_false_eq_true, if_true, if_false, e_M_told_0, e_M_told_48, e_M_told_60, e_M_told_72, e_M_told_84, e_M_told_96, e_M_told_108, e_M_told_120, e_M_told_135, e_M_told_136, e_M_told_140, e_M_told_152, q1, q_pass, q_fail]
      have q2 := q_RallCries (d + 27) (mset s 0 0 0) (by rw [mset_ne (by omega)]; omega) (by
        intro c h
        rw [mset_ne (by omega)] at h
        rw [mset_ne (by omega), (hl2 c (by omega)).2.1]
        exact (hl c (by omega)).2.1)
      apply c_R_told
      simp (disch := first | assumption | omega) only [rn, wk, al, wr_e, td_e, tm_e, mset_eq, mset_ne, if_pos, if_neg, Int.reduceAdd, Int.reduceSub, Int.reduceMul, Int.reduceNeg, Int.reduceLT, Int.reduceLE, Int.reduceEq, Int.cast_ofNat_Int, eq_self, and_true, true_and, ite_self, true_or, or_true, false_or, or_false, and_false, false_and, not_true_eq_false, not_false_eq_true, if_true, if_false, e_R_told_0, e_R_told_10, e_R_told_16, e_R_told_30, e_R_told_36, q2, q_gives, q_refuse]
      refine ⟨?_, inv_st 0 hi⟩
      rw [hr.2.2.2.1]
      apply sg_congr
      intro i h1 h2
      exact (hl2 i (by omega)).2.1
    all_goals
      apply c_M_told
      simp (disch := first | assumption | omega) only [rn, wk, al, wr_e, td_e, tm_e, mset_eq, mset_ne, if_pos, if_neg, Int.reduceAdd, Int.reduceSub, Int.reduceMul, Int.reduceNeg, Int.reduceLT, Int.reduceLE, Int.reduceEq, Int.cast_ofNat_Int, eq_self, and_true, true_and, ite_self, true_or, or_true, false_or, or_false, and_false, false_and, not_true_eq_false, not_false_eq_true, if_true, if_false, e_M_told_0, e_M_told_48, e_M_told_60, e_M_told_72, e_M_told_84, e_M_told_96, e_M_told_108, e_M_told_120, e_M_told_135, e_M_told_136, e_M_told_140, e_M_told_152, q_pass, q_fail]
      apply c_R_told
      simp (disch := first | assumption | omega) only [rn, wk, al, wr_e, td_e, tm_e, mset_eq, mset_ne, if_pos, if_neg, Int.reduceAdd, Int.reduceSub, Int.reduceMul, Int.reduceNeg, Int.reduceLT, Int.reduceLE, Int.reduceEq, Int.cast_ofNat_Int, eq_self, and_true, true_and, ite_self, true_or, or_true, false_or, or_false, and_false, false_and, not_true_eq_false, not_false_eq_true, if_true, if_false, e_R_told_0, e_R_told_10, e_R_told_16, e_R_told_30, e_R_told_36, q_gives, q_refuse]
      exact ⟨by omega, inv_st 0 hi⟩
  · apply c_M_told
    simp (disch := first | assumption | omega) only [rn, wk, al, wr_e, td_e, tm_e, mset_eq, mset_ne, if_pos, if_neg, Int.reduceAdd, Int.reduceSub, Int.reduceMul, Int.reduceNeg, Int.reduceLT, Int.reduceLE, Int.reduceEq, Int.cast_ofNat_Int, eq_self, and_true, true_and, ite_self, true_or, or_true, false_or, or_false, and_false, false_and, not_true_eq_false, not_false_eq_true, if_true, if_false, e_M_told_0, e_M_told_48, e_M_told_60, e_M_told_72, e_M_told_84, e_M_told_96, e_M_told_108, e_M_told_120, e_M_told_135, e_M_told_136, e_M_told_140, e_M_told_152, q_pass, q_fail]
    apply c_R_told
    simp (disch := first | assumption | omega) only [rn, wk, al, wr_e, td_e, tm_e, mset_eq, mset_ne, if_pos, if_neg, Int.reduceAdd, Int.reduceSub, Int.reduceMul, Int.reduceNeg, Int.reduceLT, Int.reduceLE, Int.reduceEq, Int.cast_ofNat_Int, eq_self, and_true, true_and, ite_self, true_or, or_true, false_or, or_false, and_false, false_and, not_true_eq_false, not_false_eq_true, if_true, if_false, e_R_told_0, e_R_told_10, e_R_told_16, e_R_told_30, e_R_told_36, q_gives, q_refuse]
    repeat' split
    all_goals first | exact inv_st 1 hi | omega
theorem ak_cry (d : Nat) (c y i : Int) : Ak (d + 30) 94 275 [c, y, i] := by
  apply ak_of; intro s hi
  have hc := inv_c hi
  have hr := inv_rc hi
  by_cases c1 : ((0 ≤ c ∧ c < s 37 4) ∧ (0 ≤ y ∧ y < s 44 c)) ∧ 0 ≤ i
  · have hl := inv_vl hi c c1.1.1
    have hl2 := inv_rl hi c c1.1.1
    by_cases c2 : i < 3
    · have h1 := hl.2.2 y i c1.1.2 (by omega)
      have h2 := hl2.2.2 y i c1.1.2 (by omega)
      have e : (c * 3 + y) * 3 + i = 9 * c + 3 * y + i := by omega
      by_cases c3 : s 45 (9 * c + 3 * y + i) = 0
      · apply c_M_cry
        simp (disch := first | assumption | omega) only [rn, wk, al, wr_e, td_e, tm_e, mset_eq, mset_ne, if_pos, if_neg, Int.reduceAdd, Int.reduceSub, Int.reduceMul, Int.reduceNeg, Int.reduceLT, Int.reduceLE, Int.reduceEq, Int.cast_ofNat_Int, eq_self, and_true, true_and, ite_self, true_or, or_true, false_or, or_false, and_false, false_and, not_true_eq_false, not_false_eq_true, if_true, if_false, e_M_cry_0, e_M_cry_16, e_M_cry_22, e_M_cry_43, e_M_cry_44, e_M_cry_60, e_M_cry_66, q_hasCry _ isH37, q_numberOf _ isH37, e, q_pass, q_fail]
        apply c_R_cry
        simp (disch := first | assumption | omega | ((simp (disch := omega) only [mset_ne, mset_eq, Int.reduceAdd]) <;> omega)) only [rn, wk, al, wr_e, td_e, tm_e, mset_eq, mset_ne, if_pos, if_neg, Int.reduceAdd, Int.reduceSub, Int.reduceMul, Int.reduceNeg, Int.reduceLT, Int.reduceLE, Int.reduceEq, Int.cast_ofNat_Int, eq_self, and_true, true_and, ite_self, true_or, or_true, false_or, or_false, and_false, false_and, not_true_eq_false, not_false_eq_true, if_true, if_false, e_R_cry_0, e_R_cry_13, e_R_cry_19, e_R_cry_34, e_R_cry_41, q_isCry, q_RnumberOf, q_gives, q_refuse]
        exact inv_st 6 hi
      · apply c_M_cry
        simp (disch := first | assumption | omega) only [rn, wk, al, wr_e, td_e, tm_e, mset_eq, mset_ne, if_pos, if_neg, Int.reduceAdd, Int.reduceSub, Int.reduceMul, Int.reduceNeg, Int.reduceLT, Int.reduceLE, Int.reduceEq, Int.cast_ofNat_Int, eq_self, and_true, true_and, ite_self, true_or, or_true, false_or, or_false, and_false, false_and, not_true_eq_false, not_false_eq_true, if_true, if_false, e_M_cry_0, e_M_cry_16, e_M_cry_22, e_M_cry_43, e_M_cry_44, e_M_cry_60, e_M_cry_66, q_hasCry _ isH37, q_numberOf _ isH37, e, q_pass, q_fail]
        apply c_R_cry
        simp (disch := first | assumption | omega | ((simp (disch := omega) only [mset_ne, mset_eq, Int.reduceAdd]) <;> omega)) only [rn, wk, al, wr_e, td_e, tm_e, mset_eq, mset_ne, if_pos, if_neg, Int.reduceAdd, Int.reduceSub, Int.reduceMul, Int.reduceNeg, Int.reduceLT, Int.reduceLE, Int.reduceEq, Int.cast_ofNat_Int, eq_self, and_true, true_and, ite_self, true_or, or_true, false_or, or_false, and_false, false_and, not_true_eq_false, not_false_eq_true, if_true, if_false, e_R_cry_0, e_R_cry_13, e_R_cry_19, e_R_cry_34, e_R_cry_41, q_isCry, q_RnumberOf, q_gives, q_refuse]
        exact ⟨by omega, inv_st 0 hi⟩
    · apply c_M_cry
      simp (disch := first | assumption | omega) only [rn, wk, al, wr_e, td_e, tm_e, mset_eq, mset_ne, if_pos, if_neg, Int.reduceAdd, Int.reduceSub, Int.reduceMul, Int.reduceNeg, Int.reduceLT, Int.reduceLE, Int.reduceEq, Int.cast_ofNat_Int, eq_self, and_true, true_and, ite_self, true_or, or_true, false_or, or_false, and_false, false_and, not_true_eq_false, not_false_eq_true, if_true, if_false, e_M_cry_0, e_M_cry_16, e_M_cry_22, e_M_cry_43, e_M_cry_44, e_M_cry_60, e_M_cry_66, q_hasCry _ isH37, q_pass, q_fail]
      apply c_R_cry
      simp (disch := first | assumption | omega | ((simp (disch := omega) only [mset_ne, mset_eq, Int.reduceAdd]) <;> omega)) only [rn, wk, al, wr_e, td_e, tm_e, mset_eq, mset_ne, if_pos, if_neg, Int.reduceAdd, Int.reduceSub, Int.reduceMul, Int.reduceNeg, Int.reduceLT, Int.reduceLE, Int.reduceEq, Int.cast_ofNat_Int, eq_self, and_true, true_and, ite_self, true_or, or_true, false_or, or_false, and_false, false_and, not_true_eq_false, not_false_eq_true, if_true, if_false, e_R_cry_0, e_R_cry_13, e_R_cry_19, e_R_cry_34, e_R_cry_41, q_isCry, q_gives, q_refuse]
      exact inv_st 6 hi
  · have hm : ∀ q : Prop, (CV (d + 30) 275 [137, c, y, i] (mset s 0 0 1) fun r' u => r' = -1 ∧ Inv u) := by
      intro _
      apply c_R_cry
      by_cases c2 : (0 ≤ c ∧ c < s 37 4) ∧ (0 ≤ y ∧ y < s 44 c)
      · have hl2 := inv_rl hi c c2.1
        simp (disch := first | assumption | omega | ((simp (disch := omega) only [mset_ne, mset_eq, Int.reduceAdd]) <;> omega)) only [rn, wk, al, wr_e, td_e, tm_e, mset_eq, mset_ne, if_pos, if_neg, Int.reduceAdd, Int.reduceSub, Int.reduceMul, Int.reduceNeg, Int.reduceLT, Int.reduceLE, Int.reduceEq, Int.cast_ofNat_Int, eq_self, and_true, true_and, ite_self, true_or, or_true, false_or, or_false, and_false, false_and, not_true_eq_false, not_false_eq_true, if_true, if_false, e_R_cry_0, e_R_cry_13, e_R_cry_19, e_R_cry_34, e_R_cry_41, q_isCry, q_gives, q_refuse]
        exact inv_st 1 hi
      · by_cases c3 : 0 ≤ c ∧ c < s 37 4
        · have hl2 := inv_rl hi c c3
          simp (disch := first | assumption | omega | ((simp (disch := omega) only [mset_ne, mset_eq, Int.reduceAdd]) <;> omega)) only [rn, wk, al, wr_e, td_e, tm_e, mset_eq, mset_ne, if_pos, if_neg, Int.reduceAdd, Int.reduceSub, Int.reduceMul, Int.reduceNeg, Int.reduceLT, Int.reduceLE, Int.reduceEq, Int.cast_ofNat_Int, eq_self, and_true, true_and, ite_self, true_or, or_true, false_or, or_false, and_false, false_and, not_true_eq_false, not_false_eq_true, if_true, if_false, e_R_cry_0, e_R_cry_13, e_R_cry_19, e_R_cry_34, e_R_cry_41, q_isCry, q_gives, q_refuse]
          exact inv_st 1 hi
        · simp (disch := first | assumption | omega | ((simp (disch := omega) only [mset_ne, mset_eq, Int.reduceAdd]) <;> omega)) only [rn, wk, al, wr_e, td_e, tm_e, mset_eq, mset_ne, if_pos, if_neg, Int.reduceAdd, Int.reduceSub, Int.reduceMul, Int.reduceNeg, Int.reduceLT, Int.reduceLE, Int.reduceEq, Int.cast_ofNat_Int, eq_self, and_true, true_and, ite_self, true_or, or_true, false_or, or_false, and_false, false_and, not_true_eq_false, not_false_eq_true, if_true, if_false, e_R_cry_0, e_R_cry_13, e_R_cry_19, e_R_cry_34, e_R_cry_41, q_isCry, q_gives, q_refuse]
          exact inv_st 1 hi
    apply c_M_cry
    by_cases c2 : (0 ≤ c ∧ c < s 37 4) ∧ (0 ≤ y ∧ y < s 44 c)
    · simp (disch := first | assumption | omega) only [rn, wk, al, wr_e, td_e, tm_e, mset_eq, mset_ne, if_pos, if_neg, Int.reduceAdd, Int.reduceSub, Int.reduceMul, Int.reduceNeg, Int.reduceLT, Int.reduceLE, Int.reduceEq, Int.cast_ofNat_Int, eq_self, and_true, true_and, ite_self, true_or, or_true, false_or, or_false, and_false, false_and, not_true_eq_false, not_false_eq_true, if_true, if_false, e_M_cry_0, e_M_cry_16, e_M_cry_22, e_M_cry_43, e_M_cry_44, e_M_cry_60, e_M_cry_66, q_hasCry _ isH37, q_pass, q_fail]
      exact hm True
    · simp (disch := first | assumption | omega) only [rn, wk, al, wr_e, td_e, tm_e, mset_eq, mset_ne, if_pos, if_neg, Int.reduceAdd, Int.reduceSub, Int.reduceMul, Int.reduceNeg, Int.reduceLT, Int.reduceLE, Int.reduceEq, Int.cast_ofNat_Int, eq_self, and_true, true_and, ite_self, true_or, or_true, false_or, or_false, and_false, false_and, not_true_eq_false, not_false_eq_true, if_true, if_false, e_M_cry_0, e_M_cry_16, e_M_cry_22, e_M_cry_43, e_M_cry_44, e_M_cry_60, e_M_cry_66, q_hasCry _ isH37, q_pass, q_fail]
      exact hm True
theorem ak_call (d : Nat) (k w : Int) : Ak (d + 30) 96 278 [k, w] := by
  apply ak_of; intro s hi
  have hc := inv_c hi
  have hr := inv_rc hi
  by_cases c1 : (0 ≤ k ∧ k < s 37 5) ∧ 0 ≤ w ∧ w ≤ 2
  · have hk := inv_rk hi k c1.1
    have hl := (inv_vl hi _ hk.2.1).2.1
    have e0 : 109 + 3 * k + 0 = 109 + 3 * k := by omega
    have e1 : 109 + 3 * k + 1 = 110 + 3 * k := by omega
    have e2 : 109 + 3 * k + 2 = 111 + 3 * k := by omega
    obtain rfl | rfl | rfl : w = 0 ∨ w = 1 ∨ w = 2 := by omega
    all_goals
      apply c_M_call
      simp (disch := first | assumption | omega | ((simp (disch := omega) only [mset_ne, mset_eq, Int.reduceAdd]) <;> omega)) only [rn, wk, al, wr_e, td_e, tm_e, mset_eq, mset_ne, if_pos, if_neg, Int.reduceAdd, Int.reduceSub, Int.reduceMul, Int.reduceNeg, Int.reduceLT, Int.reduceLE, Int.reduceEq, Int.cast_ofNat_Int, eq_self, and_true, true_and, ite_self, true_or, or_true, false_or, or_false, and_false, false_and, not_true_eq_false, not_false_eq_true, if_true, if_false, e_M_call_0, e_M_call_17, e_M_call_44, e_M_call_57, e_M_call_72, e_M_call_85, q_hasCall, q_callerOf _ isH37, q_kindOf _ isH37, q_startOf _ isH37, q_pass, q_fail]
      apply c_R_call
      simp (disch := first | assumption | omega | ((simp (disch := omega) only [mset_ne, mset_eq, Int.reduceAdd]) <;> omega)) only [rn, wk, al, wr_e, td_e, tm_e, mset_eq, mset_ne, if_pos, if_neg, Int.reduceAdd, Int.reduceSub, Int.reduceMul, Int.reduceNeg, Int.reduceLT, Int.reduceLE, Int.reduceEq, Int.cast_ofNat_Int, eq_self, and_true, true_and, ite_self, true_or, or_true, false_or, or_false, and_false, false_and, not_true_eq_false, not_false_eq_true, if_true, if_false, e_R_call_0, e_R_call_23, e_R_call_29, q_callOf, q_gives, q_refuse, e0, e1, e2]
      exact ⟨by omega, inv_st 0 hi⟩
  · apply c_M_call
    by_cases c2 : 0 ≤ k ∧ k < s 37 5
    · simp (disch := first | assumption | omega | ((simp (disch := omega) only [mset_ne, mset_eq, Int.reduceAdd]) <;> omega)) only [rn, wk, al, wr_e, td_e, tm_e, mset_eq, mset_ne, if_pos, if_neg, Int.reduceAdd, Int.reduceSub, Int.reduceMul, Int.reduceNeg, Int.reduceLT, Int.reduceLE, Int.reduceEq, Int.cast_ofNat_Int, eq_self, and_true, true_and, ite_self, true_or, or_true, false_or, or_false, and_false, false_and, not_true_eq_false, not_false_eq_true, if_true, if_false, e_M_call_0, e_M_call_17, e_M_call_44, e_M_call_57, e_M_call_72, e_M_call_85, q_hasCall, q_pass, q_fail]
      apply c_R_call
      simp (disch := first | assumption | omega | ((simp (disch := omega) only [mset_ne, mset_eq, Int.reduceAdd]) <;> omega)) only [rn, wk, al, wr_e, td_e, tm_e, mset_eq, mset_ne, if_pos, if_neg, Int.reduceAdd, Int.reduceSub, Int.reduceMul, Int.reduceNeg, Int.reduceLT, Int.reduceLE, Int.reduceEq, Int.cast_ofNat_Int, eq_self, and_true, true_and, ite_self, true_or, or_true, false_or, or_false, and_false, false_and, not_true_eq_false, not_false_eq_true, if_true, if_false, e_R_call_0, e_R_call_23, e_R_call_29, q_gives, q_refuse]
      repeat' split
      all_goals first | exact inv_st 1 hi | omega
    · simp (disch := first | assumption | omega | ((simp (disch := omega) only [mset_ne, mset_eq, Int.reduceAdd]) <;> omega)) only [rn, wk, al, wr_e, td_e, tm_e, mset_eq, mset_ne, if_pos, if_neg, Int.reduceAdd, Int.reduceSub, Int.reduceMul, Int.reduceNeg, Int.reduceLT, Int.reduceLE, Int.reduceEq, Int.cast_ofNat_Int, eq_self, and_true, true_and, ite_self, true_or, or_true, false_or, or_false, and_false, false_and, not_true_eq_false, not_false_eq_true, if_true, if_false, e_M_call_0, e_M_call_17, e_M_call_44, e_M_call_57, e_M_call_72, e_M_call_85, q_hasCall, q_pass, q_fail]
      apply c_R_call
      simp (disch := first | assumption | omega | ((simp (disch := omega) only [mset_ne, mset_eq, Int.reduceAdd]) <;> omega)) only [rn, wk, al, wr_e, td_e, tm_e, mset_eq, mset_ne, if_pos, if_neg, Int.reduceAdd, Int.reduceSub, Int.reduceMul, Int.reduceNeg, Int.reduceLT, Int.reduceLE, Int.reduceEq, Int.cast_ofNat_Int, eq_self, and_true, true_and, ite_self, true_or, or_true, false_or, or_false, and_false, false_and, not_true_eq_false, not_false_eq_true, if_true, if_false, e_R_call_0, e_R_call_23, e_R_call_29, q_gives, q_refuse]
      repeat' split
      all_goals first | exact inv_st 1 hi | omega
