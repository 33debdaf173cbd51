/-! ===== H2: small readers of the hall ===== -/
theorem td_e {x y : Int} (h : 0 ≤ x) : x.tdiv y = x / y := Int.tdiv_eq_ediv_of_nonneg h
theorem tm_e {x y : Int} (h : 0 ≤ x) : x.tmod y = x % y := Int.tmod_eq_emod_of_nonneg h
def isH (h : Int) : Prop := h = 37 ∨ h = 57 ∨ h = 77 ∨ h = 97 ∨ h = 117
theorem ah {h : Int} (hh : isH h) : alen (h + 1) = 16 ∧ alen (h + 2) = 20 ∧ alen (h + 3) = 10 ∧ alen (h + 4) = 10 ∧ alen (h + 5) = 4 ∧ alen (h + 6) = 5 ∧ alen (h + 7) = 5 ∧ alen (h + 8) = 45 ∧ alen (h + 9) = 8 ∧ alen (h + 10) = 364 ∧ alen (h + 11) = 49 ∧ alen (h + 12 + 1) = 60 ∧ alen (h + 12 + 2) = 60 ∧ alen (h + 12 + 3) = 60 ∧ alen (h + 12 + 4) = 60 ∧ alen (h + 12 + 5) = 60 ∧ alen (h + 12 + 6) = 60 ∧ alen (h + 12 + 7) = 60 := by
  rcases hh with rfl | rfl | rfl | rfl | rfl <;> exact ⟨rfl, rfl, rfl, rfl, rfl, rfl, rfl, rfl, rfl, rfl, rfl, rfl, rfl, rfl, rfl, rfl, rfl, rfl⟩
theorem isH37 : isH 37 := Or.inl rfl
theorem isH57 : isH 57 := Or.inr (Or.inl rfl)
theorem q_numberOf (d : Nat) {h : Int} (hh : isH h) (k i : Int) (s : Mem) (hk : 0 ≤ k ∧ k < 15) (hi : 0 ≤ i ∧ i < 3) : sem (d + 1) 95 [h, k, i] s = some (s (h + 8) (k * 3 + i), s) := by
  apply CV_eq; apply c_Hall_numberOf
  simp (disch := first | assumption | omega) only [rn, wk, al, wr_e, td_e, tm_e, mset_eq, mset_ne, if_pos, if_neg, Int.reduceAdd, Int.reduceSub, Int.reduceMul, Int.reduceNeg, Int.reduceLT, Int.reduceLE, Int.reduceEq, Int.cast_ofNat_Int, eq_self, and_true, true_and, ite_self, true_or, or_true, false_or, or_false, and_false, false_and, not_true_eq_false, not_false_eq_true, if_true, if_false, e_Hall_numberOf_0, ah hh]
theorem q_hasCry (d : Nat) {h : Int} (hh : isH h) (c k : Int) (s : Mem) (h4 : s h 4 ≤ 5) : sem (d + 1) 65 [h, c, k] s = some (if (0 ≤ c ∧ c < s h 4) ∧ (0 ≤ k ∧ k < s (h + 7) c) then 1 else 0, s) := by
  apply CV_eq; apply c_Hall_hasCry
  by_cases c1 : 0 ≤ c ∧ c < s h 4
  · simp (disch := first | assumption | omega) only [rn, wk, al, wr_e, td_e, tm_e, mset_eq, mset_ne, if_pos, if_neg, Int.reduceAdd, Int.reduceSub, Int.reduceMul, Int.reduceNeg, Int.reduceLT, Int.reduceLE, Int.reduceEq, Int.cast_ofNat_Int, eq_self, and_true, true_and, ite_self, true_or, or_true, false_or, or_false, and_false, false_and, not_true_eq_false, not_false_eq_true, if_true, if_false, e_Hall_hasCry_0, e_Hall_hasCry_30, e_Hall_hasCry_31, ah hh]
    repeat' split
  · simp (disch := first | assumption | omega) only [rn, wk, al, wr_e, td_e, tm_e, mset_eq, mset_ne, if_pos, if_neg, Int.reduceAdd, Int.reduceSub, Int.reduceMul, Int.reduceNeg, Int.reduceLT, Int.reduceLE, Int.reduceEq, Int.cast_ofNat_Int, eq_self, and_true, true_and, ite_self, true_or, or_true, false_or, or_false, and_false, false_and, not_true_eq_false, not_false_eq_true, if_true, if_false, e_Hall_hasCry_0, e_Hall_hasCry_30, e_Hall_hasCry_31, ah hh]
    repeat' split
theorem q_kindOf (d : Nat) {h : Int} (hh : isH h) (k : Int) (s : Mem) (hk : 0 ≤ k ∧ k < 8) (h1 : 0 ≤ s (h + 9) k ∧ s (h + 9) k < 315) : sem (d + 1) 99 [h, k] s = some (s (h + 9) k / 21, s) := by
  apply CV_eq; apply c_Hall_kindOf
  simp (disch := first | assumption | omega) only [rn, wk, al, wr_e, td_e, tm_e, mset_eq, mset_ne, if_pos, if_neg, Int.reduceAdd, Int.reduceSub, Int.reduceMul, Int.reduceNeg, Int.reduceLT, Int.reduceLE, Int.reduceEq, Int.cast_ofNat_Int, eq_self, and_true, true_and, ite_self, true_or, or_true, false_or, or_false, and_false, false_and, not_true_eq_false, not_false_eq_true, if_true, if_false, e_Hall_kindOf_0, ah hh]
theorem q_callerOf (d : Nat) {h : Int} (hh : isH h) (k : Int) (s : Mem) (hk : 0 ≤ k ∧ k < 8) (h1 : 0 ≤ s (h + 9) k ∧ s (h + 9) k < 315) : sem (d + 2) 98 [h, k] s = some (s (h + 9) k / 63, s) := by
  apply CV_eq; apply c_Hall_callerOf
  have e : s (h + 9) k / 21 / 3 = s (h + 9) k / 63 := by omega
  simp (disch := first | assumption | omega) only [rn, wk, al, wr_e, td_e, tm_e, mset_eq, mset_ne, if_pos, if_neg, Int.reduceAdd, Int.reduceSub, Int.reduceMul, Int.reduceNeg, Int.reduceLT, Int.reduceLE, Int.reduceEq, Int.cast_ofNat_Int, eq_self, and_true, true_and, ite_self, true_or, or_true, false_or, or_false, and_false, false_and, not_true_eq_false, not_false_eq_true, if_true, if_false, e_Hall_callerOf_0, q_kindOf, ah hh, e]
theorem q_startOf (d : Nat) {h : Int} (hh : isH h) (k : Int) (s : Mem) (hk : 0 ≤ k ∧ k < 8) (h1 : 0 ≤ s (h + 9) k ∧ s (h + 9) k < 315) : sem (d + 1) 100 [h, k] s = some (s (h + 9) k % 21, s) := by
  apply CV_eq; apply c_Hall_startOf
  simp (disch := first | assumption | omega) only [rn, wk, al, wr_e, td_e, tm_e, mset_eq, mset_ne, if_pos, if_neg, Int.reduceAdd, Int.reduceSub, Int.reduceMul, Int.reduceNeg, Int.reduceLT, Int.reduceLE, Int.reduceEq, Int.cast_ofNat_Int, eq_self, and_true, true_and, ite_self, true_or, or_true, false_or, or_false, and_false, false_and, not_true_eq_false, not_false_eq_true, if_true, if_false, e_Hall_startOf_0, ah hh]
theorem q_isPlace (d : Nat) (w : Int) (s : Mem) : sem (d + 1) 281 [137, w] s = some (if 0 ≤ w ∧ w < s 138 0 then 1 else 0, s) := by
  apply CV_eq; apply c_R_isPlace
  simp (disch := first | assumption | omega) only [rn, wk, al, wr_e, td_e, tm_e, mset_eq, mset_ne, if_pos, if_neg, Int.reduceAdd, Int.reduceSub, Int.reduceMul, Int.reduceNeg, Int.reduceLT, Int.reduceLE, Int.reduceEq, Int.cast_ofNat_Int, eq_self, and_true, true_and, ite_self, true_or, or_true, false_or, or_false, and_false, false_and, not_true_eq_false, not_false_eq_true, if_true, if_false, e_R_isPlace_0, e_R_isPlace_18, e_R_isPlace_19]
  repeat' split
theorem q_isSlate (d : Nat) (w : Int) (s : Mem) : sem (d + 1) 272 [137, w] s = some (if 0 ≤ w ∧ w < s 138 2 then 1 else 0, s) := by
  apply CV_eq; apply c_R_isSlate
  simp (disch := first | assumption | omega) only [rn, wk, al, wr_e, td_e, tm_e, mset_eq, mset_ne, if_pos, if_neg, Int.reduceAdd, Int.reduceSub, Int.reduceMul, Int.reduceNeg, Int.reduceLT, Int.reduceLE, Int.reduceEq, Int.cast_ofNat_Int, eq_self, and_true, true_and, ite_self, true_or, or_true, false_or, or_false, and_false, false_and, not_true_eq_false, not_false_eq_true, if_true, if_false, e_R_isSlate_0, e_R_isSlate_18, e_R_isSlate_19]
  repeat' split
theorem q_isCaller (d : Nat) (w : Int) (s : Mem) : sem (d + 1) 274 [137, w] s = some (if 0 ≤ w ∧ w < s 138 3 then 1 else 0, s) := by
  apply CV_eq; apply c_R_isCaller
  simp (disch := first | assumption | omega) only [rn, wk, al, wr_e, td_e, tm_e, mset_eq, mset_ne, if_pos, if_neg, Int.reduceAdd, Int.reduceSub, Int.reduceMul, Int.reduceNeg, Int.reduceLT, Int.reduceLE, Int.reduceEq, Int.cast_ofNat_Int, eq_self, and_true, true_and, ite_self, true_or, or_true, false_or, or_false, and_false, false_and, not_true_eq_false, not_false_eq_true, if_true, if_false, e_R_isCaller_0, e_R_isCaller_18, e_R_isCaller_19]
  repeat' split
theorem q_wayRow (d : Nat) (w : Int) (s : Mem) (h : 0 ≤ w ∧ w ≤ 10) : sem (d + 1) 246 [w] s = some (10 + 4 * w, s) := by
  apply CV_eq; apply c_R_wayRow
  simp (disch := first | assumption | omega) only [rn, wk, al, wr_e, td_e, tm_e, mset_eq, mset_ne, if_pos, if_neg, Int.reduceAdd, Int.reduceSub, Int.reduceMul, Int.reduceNeg, Int.reduceLT, Int.reduceLE, Int.reduceEq, Int.cast_ofNat_Int, eq_self, and_true, true_and, ite_self, true_or, or_true, false_or, or_false, and_false, false_and, not_true_eq_false, not_false_eq_true, if_true, if_false, e_R_wayRow_0]
theorem q_callerRow (d : Nat) (w : Int) (s : Mem) (h : 0 ≤ w ∧ w ≤ 5) : sem (d + 1) 253 [w] s = some (54 + 11 * w, s) := by
  apply CV_eq; apply c_R_callerRow
  simp (disch := first | assumption | omega) only [rn, wk, al, wr_e, td_e, tm_e, mset_eq, mset_ne, if_pos, if_neg, Int.reduceAdd, Int.reduceSub, Int.reduceMul, Int.reduceNeg, Int.reduceLT, Int.reduceLE, Int.reduceEq, Int.cast_ofNat_Int, eq_self, and_true, true_and, ite_self, true_or, or_true, false_or, or_false, and_false, false_and, not_true_eq_false, not_false_eq_true, if_true, if_false, e_R_callerRow_0]
theorem q_callRow (d : Nat) (w : Int) (s : Mem) (h : -1 ≤ w ∧ w ≤ 8) : sem (d + 1) 257 [w] s = some (109 + 3 * w, s) := by
  apply CV_eq; apply c_R_callRow
  simp (disch := first | assumption | omega) only [rn, wk, al, wr_e, td_e, tm_e, mset_eq, mset_ne, if_pos, if_neg, Int.reduceAdd, Int.reduceSub, Int.reduceMul, Int.reduceNeg, Int.reduceLT, Int.reduceLE, Int.reduceEq, Int.cast_ofNat_Int, eq_self, and_true, true_and, ite_self, true_or, or_true, false_or, or_false, and_false, false_and, not_true_eq_false, not_false_eq_true, if_true, if_false, e_R_callRow_0]
theorem q_isCry (d : Nat) (c k : Int) (s : Mem) (h4 : s 138 3 ≤ 5) : sem (d + 2) 276 [137, c, k] s = some (if (0 ≤ c ∧ c < s 138 3) ∧ (0 ≤ k ∧ k < s 138 (55 + 11 * c)) then 1 else 0, s) := by
  apply CV_eq; apply c_R_isCry
  have e : 54 + 11 * c + 1 = 55 + 11 * c := by omega
  by_cases c1 : 0 ≤ c ∧ c < s 138 3
  · simp (disch := first | assumption | omega) only [rn, wk, al, wr_e, td_e, tm_e, mset_eq, mset_ne, if_pos, if_neg, Int.reduceAdd, Int.reduceSub, Int.reduceMul, Int.reduceNeg, Int.reduceLT, Int.reduceLE, Int.reduceEq, Int.cast_ofNat_Int, eq_self, and_true, true_and, ite_self, true_or, or_true, false_or, or_false, and_false, false_and, not_true_eq_false, not_false_eq_true, if_true, if_false, e_R_isCry_0, e_R_isCry_31, e_R_isCry_32, q_isCaller, q_callerRow, e]
    repeat' split
  · simp (disch := first | assumption | omega) only [rn, wk, al, wr_e, td_e, tm_e, mset_eq, mset_ne, if_pos, if_neg, Int.reduceAdd, Int.reduceSub, Int.reduceMul, Int.reduceNeg, Int.reduceLT, Int.reduceLE, Int.reduceEq, Int.cast_ofNat_Int, eq_self, and_true, true_and, ite_self, true_or, or_true, false_or, or_false, and_false, false_and, not_true_eq_false, not_false_eq_true, if_true, if_false, e_R_isCry_0, e_R_isCry_31, e_R_isCry_32, q_isCaller, q_callerRow, e]
theorem q_RnumberOf (d : Nat) (c k i : Int) (s : Mem) (hc : 0 ≤ c ∧ c < 5) (hk : 0 ≤ k ∧ k < 3) (hi : 0 ≤ i ∧ i < 3) : sem (d + 2) 277 [137, c, k, i] s = some (s 138 (56 + 11 * c + 3 * k + i), s) := by
  apply CV_eq; apply c_R_numberOf
  have e : 54 + 11 * c + 2 + 3 * k + i = 56 + 11 * c + 3 * k + i := by omega
  simp (disch := first | assumption | omega) only [rn, wk, al, wr_e, td_e, tm_e, mset_eq, mset_ne, if_pos, if_neg, Int.reduceAdd, Int.reduceSub, Int.reduceMul, Int.reduceNeg, Int.reduceLT, Int.reduceLE, Int.reduceEq, Int.cast_ofNat_Int, eq_self, and_true, true_and, ite_self, true_or, or_true, false_or, or_false, and_false, false_and, not_true_eq_false, not_false_eq_true, if_true, if_false, e_R_numberOf_0, q_callerRow, e]
theorem q_callOf (d : Nat) (k i : Int) (s : Mem) (hk : 0 ≤ k ∧ k < 8) (hi : 0 ≤ i ∧ i < 3) : sem (d + 2) 279 [137, k, i] s = some (s 138 (109 + 3 * k + i), s) := by
  apply CV_eq; apply c_R_callOf
  simp (disch := first | assumption | omega) only [rn, wk, al, wr_e, td_e, tm_e, mset_eq, mset_ne, if_pos, if_neg, Int.reduceAdd, Int.reduceSub, Int.reduceMul, Int.reduceNeg, Int.reduceLT, Int.reduceLE, Int.reduceEq, Int.cast_ofNat_Int, eq_self, and_true, true_and, ite_self, true_or, or_true, false_or, or_false, and_false, false_and, not_true_eq_false, not_false_eq_true, if_true, if_false, e_R_callOf_0, q_callRow]
