/-! ===== H2: calls that only tell ===== -/
def Ak (d mx mr : Nat) (a : List Int) : Prop := ∀ s, Inv s → ∃ r t u, sem d mx (0 :: a) s = some (r, t) ∧ sem d mr (137 :: a) t = some (r, u) ∧ Inv u
theorem ak_of {d mx mr : Nat} {a : List Int} (h : ∀ s, Inv s → CV d mx (0 :: a) s fun r t => CV d mr (137 :: a) t fun r' u => r' = r ∧ Inv u) : Ak d mx mr a := by
  intro s hi
  obtain ⟨r, t, h1, r', u, h2, rfl, h3⟩ := h s hi
  exact ⟨r', t, u, h1, h2, h3⟩
theorem inv_st {s : Mem} (p : Int) (hi : Inv s) : Inv (mset (mset s 0 0 p) 137 2 p) := by
  refine inv_of (s := s) ?_ ?_ hi
  · intro c i h
    unfold Rv at h
    rw [mset_ne (by omega), mset_ne (by omega)]
  · rw [mset_eq rfl rfl, mset_ne (by omega), mset_eq rfl rfl]
theorem inv_c {s : Mem} (hi : Inv s) : (0 ≤ s 37 0 ∧ s 37 0 ≤ 16) ∧ (0 ≤ s 37 1 ∧ s 37 1 ≤ 7) ∧ (0 ≤ s 37 2 ∧ s 37 2 ≤ 10) ∧ (0 ≤ s 37 3 ∧ s 37 3 ≤ 4) ∧ (0 ≤ s 37 4 ∧ s 37 4 ≤ 5) ∧ (0 ≤ s 37 5 ∧ s 37 5 ≤ 8) ∧ (0 ≤ s 37 6 ∧ s 37 6 ≤ 1) := hi.2.2.2.2.1.1.1
theorem inv_vw {s : Mem} (hi : Inv s) : ∀ w, 0 ≤ w ∧ w < s 37 2 → (0 ≤ s 39 (2 * w) ∧ s 39 (2 * w) < s 37 1) ∧ (0 ≤ s 39 (2 * w + 1) ∧ s 39 (2 * w + 1) < s 37 1) ∧ (1 ≤ s 40 w ∧ s 40 w ≤ 9) ∧ (0 ≤ s 41 w ∧ s 41 w ≤ 9) ∧ s 39 (2 * w) ≠ s 39 (2 * w + 1) := hi.2.2.2.2.1.1.2.1
theorem inv_vs {s : Mem} (hi : Inv s) : ∀ i, 0 ≤ i ∧ i < s 37 3 → 0 ≤ s 42 i ∧ s 42 i < s 37 1 := hi.2.2.2.2.1.1.2.2.1
theorem inv_vl {s : Mem} (hi : Inv s) : ∀ c, 0 ≤ c ∧ c < s 37 4 → (0 ≤ s 43 c ∧ s 43 c < s 37 1) ∧ (0 ≤ s 44 c ∧ s 44 c ≤ 3) ∧ ∀ k i, 0 ≤ k ∧ k < s 44 c → 0 ≤ i ∧ i < 3 → 0 ≤ s 45 (9 * c + 3 * k + i) ∧ s 45 (9 * c + 3 * k + i) ≤ 99 := hi.2.2.2.2.1.1.2.2.2.1
theorem inv_vu {s : Mem} (hi : Inv s) : s 37 6 = 1 → ∀ x b, 0 ≤ x ∧ x < 4 → 0 ≤ b ∧ b < 91 → (0 ≤ s 47 (4 * b + x) ∧ s 47 (4 * b + x) ≤ 999) ∧ (s 37 3 ≤ x → s 47 (4 * b + x) = 0) := hi.2.2.2.2.1.1.2.2.2.2.1
theorem inv_rc {s : Mem} (hi : Inv s) : s 138 0 = s 37 1 ∧ s 138 1 = s 37 2 ∧ s 138 2 = s 37 3 ∧ s 138 3 = s 37 4 ∧ s 138 4 = s 37 5 ∧ s 138 5 = s 37 0 ∧ s 138 6 = s 37 6 := hi.2.2.2.2.1.2.1
theorem inv_rw {s : Mem} (hi : Inv s) : ∀ w, 0 ≤ w ∧ w < s 37 2 → s 138 (10 + 4 * w) = s 39 (2 * w) ∧ s 138 (11 + 4 * w) = s 39 (2 * w + 1) ∧ s 138 (12 + 4 * w) = s 40 w ∧ s 138 (13 + 4 * w) = s 41 w := hi.2.2.2.2.1.2.2.1
theorem inv_rs {s : Mem} (hi : Inv s) : ∀ i, 0 ≤ i ∧ i < s 37 3 → s 138 (50 + i) = s 42 i := hi.2.2.2.2.1.2.2.2.1
theorem inv_rl {s : Mem} (hi : Inv s) : ∀ c, 0 ≤ c ∧ c < s 37 4 → s 138 (54 + 11 * c) = s 43 c ∧ s 138 (55 + 11 * c) = s 44 c ∧ ∀ k i, 0 ≤ k ∧ k < s 44 c → 0 ≤ i ∧ i < 3 → s 138 (56 + 11 * c + 3 * k + i) = s 45 (9 * c + 3 * k + i) := hi.2.2.2.2.1.2.2.2.2.1
theorem inv_rk {s : Mem} (hi : Inv s) : ∀ k, 0 ≤ k ∧ k < s 37 5 → s 46 k = 63 * s 138 (109 + 3 * k) + 21 * s 138 (110 + 3 * k) + s 138 (111 + 3 * k) ∧ (0 ≤ s 138 (109 + 3 * k) ∧ s 138 (109 + 3 * k) < s 37 4) ∧ (0 ≤ s 138 (110 + 3 * k) ∧ s 138 (110 + 3 * k) < s 44 (s 138 (109 + 3 * k))) ∧ (0 ≤ s 138 (111 + 3 * k) ∧ s 138 (111 + 3 * k) ≤ 20) := hi.2.2.2.2.1.2.2.2.2.2.1
theorem inv_ru {s : Mem} (hi : Inv s) : s 37 6 = 1 → ∀ x b, 0 ≤ x ∧ x < 4 → 0 ≤ b ∧ b < 91 → s 138 (134 + 91 * x + b) = s 47 (4 * b + x) := hi.2.2.2.2.1.2.2.2.2.2.2.1
theorem q_isBeat (d : Nat) (b : Int) (s : Mem) : sem (d + 1) 124 [b] s = some (if 0 ≤ b ∧ b ≤ 90 then 1 else 0, s) := by
  apply CV_eq; apply c_M_isBeat
  simp (disch := first | assumption | omega) only [rn, wk, al, wr_e, td_e, tm_e, mset_eq, mset_ne, if_pos, if_neg, Int.reduceAdd, Int.reduceSub, Int.reduceMul, Int.reduceNeg, Int.reduceLT, Int.reduceLE, Int.reduceEq, Int.cast_ofNat_Int, eq_self, and_true, true_and, ite_self, true_or, or_true, false_or, or_false, and_false, false_and, not_true_eq_false, not_false_eq_true, if_true, if_false, e_M_isBeat_0, e_M_isBeat_14, e_M_isBeat_15]
  repeat' split
theorem q_isFrom (d : Nat) (v l m : Int) (s : Mem) : sem (d + 1) 285 [v, l, m] s = some (if l ≤ v ∧ v ≤ m then 1 else 0, s) := by
  apply CV_eq; apply c_R_isFrom
  have e : ∀ x y : Int, (lcmp_ x y < 0) = (x < y) := by intro x y; apply propext; unfold lcmp_; (repeat' split) <;> omega
  have e' : ∀ x y : Int, (0 < lcmp_ x y) = (y < x) := by intro x y; apply propext; unfold lcmp_; (repeat' split) <;> omega
  simp (disch := first | assumption | omega) only [rn, wk, al, wr_e, td_e, tm_e, mset_eq, mset_ne, if_pos, if_neg, Int.reduceAdd, Int.reduceSub, Int.reduceMul, Int.reduceNeg, Int.reduceLT, Int.reduceLE, Int.reduceEq, Int.cast_ofNat_Int, eq_self, and_true, true_and, ite_self, true_or, or_true, false_or, or_false, and_false, false_and, not_true_eq_false, not_false_eq_true, if_true, if_false, e_R_isFrom_0, e_R_isFrom_17, e_R_isFrom_18, e, e']
  repeat' split
theorem q_RisBeat (d : Nat) (b : Int) (s : Mem) : sem (d + 2) 307 [b] s = some (if 0 ≤ b ∧ b ≤ 90 then 1 else 0, s) := by
  apply CV_eq; apply c_R_isBeat
  simp (disch := first | assumption | omega) only [rn, wk, al, wr_e, td_e, tm_e, mset_eq, mset_ne, if_pos, if_neg, Int.reduceAdd, Int.reduceSub, Int.reduceMul, Int.reduceNeg, Int.reduceLT, Int.reduceLE, Int.reduceEq, Int.cast_ofNat_Int, eq_self, and_true, true_and, ite_self, true_or, or_true, false_or, or_false, and_false, false_and, not_true_eq_false, not_false_eq_true, if_true, if_false, e_R_isBeat_0, q_isFrom]
  repeat' split
theorem q_cellOf (d : Nat) (x b : Int) (s : Mem) (hx : 0 ≤ x ∧ x < 4) (hb : 0 ≤ b ∧ b < 91) : sem (d + 1) 117 [x, b] s = some (4 * b + x, s) := by
  apply CV_eq; apply c_Hall_cellOf
  have e : b * 4 = 4 * b := by omega
  simp (disch := first | assumption | omega) only [rn, wk, al, wr_e, td_e, tm_e, mset_eq, mset_ne, if_pos, if_neg, Int.reduceAdd, Int.reduceSub, Int.reduceMul, Int.reduceNeg, Int.reduceLT, Int.reduceLE, Int.reduceEq, Int.cast_ofNat_Int, eq_self, and_true, true_and, ite_self, true_or, or_true, false_or, or_false, and_false, false_and, not_true_eq_false, not_false_eq_true, if_true, if_false, e_Hall_cellOf_0, e]
theorem ak_status (d : Nat) : Ak (d + 30) 0 213 [] := by
  apply ak_of; intro s hi
  apply c_M_status
  simp (disch := first | assumption | omega) only [rn, wk, al, wr_e, td_e, tm_e, mset_eq, mset_ne, if_pos, if_neg, Int.reduceAdd, Int.reduceSub, Int.reduceMul, Int.reduceNeg, Int.reduceLT, Int.reduceLE, Int.reduceEq, Int.cast_ofNat_Int, eq_self, and_true, true_and, ite_self, true_or, or_true, false_or, or_false, and_false, false_and, not_true_eq_false, not_false_eq_true, if_true, if_false, e_M_status_0]
  apply c_R_status
  simp (disch := first | assumption | omega) only [rn, wk, al, wr_e, td_e, tm_e, mset_eq, mset_ne, if_pos, if_neg, Int.reduceAdd, Int.reduceSub, Int.reduceMul, Int.reduceNeg, Int.reduceLT, Int.reduceLE, Int.reduceEq, Int.cast_ofNat_Int, eq_self, and_true, true_and, ite_self, true_or, or_true, false_or, or_false, and_false, false_and, not_true_eq_false, not_false_eq_true, if_true, if_false, e_R_status_0]
  exact ⟨hi.1, hi⟩
theorem ak_top (d : Nat) : Ak (d + 30) 1 214 [] := by
  apply ak_of; intro s hi
  apply c_M_top
  simp (disch := first | assumption | omega) only [rn, wk, al, wr_e, td_e, tm_e, mset_eq, mset_ne, if_pos, if_neg, Int.reduceAdd, Int.reduceSub, Int.reduceMul, Int.reduceNeg, Int.reduceLT, Int.reduceLE, Int.reduceEq, Int.cast_ofNat_Int, eq_self, and_true, true_and, ite_self, true_or, or_true, false_or, or_false, and_false, false_and, not_true_eq_false, not_false_eq_true, if_true, if_false, e_M_top_0]
  apply c_R_top
  simp (disch := first | assumption | omega) only [rn, wk, al, wr_e, td_e, tm_e, mset_eq, mset_ne, if_pos, if_neg, Int.reduceAdd, Int.reduceSub, Int.reduceMul, Int.reduceNeg, Int.reduceLT, Int.reduceLE, Int.reduceEq, Int.cast_ofNat_Int, eq_self, and_true, true_and, ite_self, true_or, or_true, false_or, or_false, and_false, false_and, not_true_eq_false, not_false_eq_true, if_true, if_false, e_R_top_0]
  exact ⟨hi.2.1.1, hi⟩
theorem ak_bottom (d : Nat) : Ak (d + 30) 2 215 [] := by
  apply ak_of; intro s hi
  apply c_M_bottom
  simp (disch := first | assumption | omega) only [rn, wk, al, wr_e, td_e, tm_e, mset_eq, mset_ne, if_pos, if_neg, Int.reduceAdd, Int.reduceSub, Int.reduceMul, Int.reduceNeg, Int.reduceLT, Int.reduceLE, Int.reduceEq, Int.cast_ofNat_Int, eq_self, and_true, true_and, ite_self, true_or, or_true, false_or, or_false, and_false, false_and, not_true_eq_false, not_false_eq_true, if_true, if_false, e_M_bottom_0]
  apply c_R_bottom
  simp (disch := first | assumption | omega) only [rn, wk, al, wr_e, td_e, tm_e, mset_eq, mset_ne, if_pos, if_neg, Int.reduceAdd, Int.reduceSub, Int.reduceMul, Int.reduceNeg, Int.reduceLT, Int.reduceLE, Int.reduceEq, Int.cast_ofNat_Int, eq_self, and_true, true_and, ite_self, true_or, or_true, false_or, or_false, and_false, false_and, not_true_eq_false, not_false_eq_true, if_true, if_false, e_R_bottom_0]
  exact ⟨hi.2.1.2.1, hi⟩
theorem ak_fault (d : Nat) (w : Int) : Ak (d + 30) 85 226 [w] := by
  apply ak_of; intro s hi
  refine CV_of (q_fault _ w s) ?_
  refine CV_of (q_Rfault _ w s) ?_
  have h1 := hi.2.1
  refine ⟨?_, hi⟩
  rw [h1.2.2.2.1, h1.2.2.2.2.1]
theorem ak_way (d : Nat) (w k : Int) : Ak (d + 30) 88 270 [w, k] := by
  apply ak_of; intro s hi
  have hc := inv_c hi
  have hr := inv_rc hi
  by_cases c1 : 0 ≤ w ∧ w < s 37 2
  · have hw := inv_rw hi w c1
    by_cases c2 : 0 ≤ k ∧ k ≤ 3
    · obtain rfl | rfl | rfl | rfl : k = 0 ∨ k = 1 ∨ k = 2 ∨ k = 3 := by omega
      · apply c_M_way
        simp (disch := first | assumption | omega) only [rn, wk, al, wr_e, td_e, tm_e, mset_eq, mset_ne, if_pos, if_neg, Int.reduceAdd, Int.reduceSub, Int.reduceMul, Int.reduceNeg, Int.reduceLT, Int.reduceLE, Int.reduceEq, Int.cast_ofNat_Int, eq_self, and_true, true_and, ite_self, true_or, or_true, false_or, or_false, and_false, false_and, not_true_eq_false, not_false_eq_true, if_true, if_false, e_M_way_0, e_M_way_17, e_M_way_48, e_M_way_64, e_M_way_82, e_M_way_96, e_M_way_110, q_hasWay, q_pass, q_fail]
        apply c_R_way
        simp (disch := first | assumption | omega) only [rn, wk, al, wr_e, td_e, tm_e, mset_eq, mset_ne, if_pos, if_neg, Int.reduceAdd, Int.reduceSub, Int.reduceMul, Int.reduceNeg, Int.reduceLT, Int.reduceLE, Int.reduceEq, Int.cast_ofNat_Int, eq_self, and_true, true_and, ite_self, true_or, or_true, false_or, or_false, and_false, false_and, not_true_eq_false, not_false_eq_true, if_true, if_false, e_R_way_0, e_R_way_23, e_R_way_29, q_wayRow, q_gives, q_refuse, Int.add_zero]
        exact ⟨by omega, inv_st 0 hi⟩
      · apply c_M_way
        simp (disch := first | assumption | omega) only [rn, wk, al, wr_e, td_e, tm_e, mset_eq, mset_ne, if_pos, if_neg, Int.reduceAdd, Int.reduceSub, Int.reduceMul, Int.reduceNeg, Int.reduceLT, Int.reduceLE, Int.reduceEq, Int.cast_ofNat_Int, eq_self, and_true, true_and, ite_self, true_or, or_true, false_or, or_false, and_false, false_and, not_true_eq_false, not_false_eq_true, if_true, if_false, e_M_way_0, e_M_way_17, e_M_way_48, e_M_way_64, e_M_way_82, e_M_way_96, e_M_way_110, q_hasWay, q_pass, q_fail]
        apply c_R_way
        simp (disch := first | assumption | omega) only [rn, wk, al, wr_e, td_e, tm_e, mset_eq, mset_ne, if_pos, if_neg, Int.reduceAdd, Int.reduceSub, Int.reduceMul, Int.reduceNeg, Int.reduceLT, Int.reduceLE, Int.reduceEq, Int.cast_ofNat_Int, eq_self, and_true, true_and, ite_self, true_or, or_true, false_or, or_false, and_false, false_and, not_true_eq_false, not_false_eq_true, if_true, if_false, e_R_way_0, e_R_way_23, e_R_way_29, q_wayRow, q_gives, q_refuse]
        refine ⟨?_, inv_st 0 hi⟩
        rw [← hw.2.1]; congr 1; omega
      · apply c_M_way
        simp (disch := first | assumption | omega) only [rn, wk, al, wr_e, td_e, tm_e, mset_eq, mset_ne, if_pos, if_neg, Int.reduceAdd, Int.reduceSub, Int.reduceMul, Int.reduceNeg, Int.reduceLT, Int.reduceLE, Int.reduceEq, Int.cast_ofNat_Int, eq_self, and_true, true_and, ite_self, true_or, or_true, false_or, or_false, and_false, false_and, not_true_eq_false, not_false_eq_true, if_true, if_false, e_M_way_0, e_M_way_17, e_M_way_48, e_M_way_64, e_M_way_82, e_M_way_96, e_M_way_110, q_hasWay, q_pass, q_fail]
        apply c_R_way
        simp (disch := first | assumption | omega) only [rn, wk, al, wr_e, td_e, tm_e, mset_eq, mset_ne, if_pos, if_neg, Int.reduceAdd, Int.reduceSub, Int.reduceMul, Int.reduceNeg, Int.reduceLT, Int.reduceLE, Int.reduceEq, Int.cast_ofNat_Int, eq_self, and_true, true_and, ite_self, true_or, or_true, false_or, or_false, and_false, false_and, not_true_eq_false, not_false_eq_true, if_true, if_false, e_R_way_0, e_R_way_23, e_R_way_29, q_wayRow, q_gives, q_refuse]
        refine ⟨?_, inv_st 0 hi⟩
        rw [← hw.2.2.1]; congr 1; omega
      · apply c_M_way
        simp (disch := first | assumption | omega) only [rn, wk, al, wr_e, td_e, tm_e, mset_eq, mset_ne, if_pos, if_neg, Int.reduceAdd, Int.reduceSub, Int.reduceMul, Int.reduceNeg, Int.reduceLT, Int.reduceLE, Int.reduceEq, Int.cast_ofNat_Int, eq_self, and_true, true_and, ite_self, true_or, or_true, false_or, or_false, and_false, false_and, not_true_eq_false, not_false_eq_true, if_true, if_false, e_M_way_0, e_M_way_17, e_M_way_48, e_M_way_64, e_M_way_82, e_M_way_96, e_M_way_110, q_hasWay, q_pass, q_fail]
        apply c_R_way
        simp (disch := first | assumption | omega) only [rn, wk, al, wr_e, td_e, tm_e, mset_eq, mset_ne, if_pos, if_neg, Int.reduceAdd, Int.reduceSub, Int.reduceMul, Int.reduceNeg, Int.reduceLT, Int.reduceLE, Int.reduceEq, Int.cast_ofNat_Int, eq_self, and_true, true_and, ite_self, true_or, or_true, false_or, or_false, and_false, false_and, not_true_eq_false, not_false_eq_true, if_true, if_false, e_R_way_0, e_R_way_23, e_R_way_29, q_wayRow, q_gives, q_refuse]
        refine ⟨?_, inv_st 0 hi⟩
        rw [← hw.2.2.2]; congr 1; omega
    · apply c_M_way
      simp (disch := first | assumption | omega) only [rn, wk, al, wr_e, td_e, tm_e, mset_eq, mset_ne, if_pos, if_neg, Int.reduceAdd, Int.reduceSub, Int.reduceMul, Int.reduceNeg, Int.reduceLT, Int.reduceLE, Int.reduceEq, Int.cast_ofNat_Int, eq_self, and_true, true_and, ite_self, true_or, or_true, false_or, or_false, and_false, false_and, not_true_eq_false, not_false_eq_true, if_true, if_false, e_M_way_0, e_M_way_17, e_M_way_48, e_M_way_64, e_M_way_82, e_M_way_96, e_M_way_110, q_hasWay, q_pass, q_fail]
      apply c_R_way
      simp (disch := first | assumption | omega) only [rn, wk, al, wr_e, td_e, tm_e, mset_eq, mset_ne, if_pos, if_neg, Int.reduceAdd, Int.reduceSub, Int.reduceMul, Int.reduceNeg, Int.reduceLT, Int.reduceLE, Int.reduceEq, Int.cast_ofNat_Int, eq_self, and_true, true_and, ite_self, true_or, or_true, false_or, or_false, and_false, false_and, not_true_eq_false, not_false_eq_true, if_true, if_false, e_R_way_0, e_R_way_23, e_R_way_29, q_wayRow, q_gives, q_refuse]
      repeat' split
      all_goals exact inv_st 1 hi
  · apply c_M_way
    simp (disch := first | assumption | omega) only [rn, wk, al, wr_e, td_e, tm_e, mset_eq, mset_ne, if_pos, if_neg, Int.reduceAdd, Int.reduceSub, Int.reduceMul, Int.reduceNeg, Int.reduceLT, Int.reduceLE, Int.reduceEq, Int.cast_ofNat_Int, eq_self, and_true, true_and, ite_self, true_or, or_true, false_or, or_false, and_false, false_and, not_true_eq_false, not_false_eq_true, if_true, if_false, e_M_way_0, e_M_way_17, e_M_way_48, e_M_way_64, e_M_way_82, e_M_way_96, e_M_way_110, q_hasWay, q_pass, q_fail]
    apply c_R_way
    simp (disch := first | assumption | omega) only [rn, wk, al, wr_e, td_e, tm_e, mset_eq, mset_ne, if_pos, if_neg, Int.reduceAdd, Int.reduceSub, Int.reduceMul, Int.reduceNeg, Int.reduceLT, Int.reduceLE, Int.reduceEq, Int.cast_ofNat_Int, eq_self, and_true, true_and, ite_self, true_or, or_true, false_or, or_false, and_false, false_and, not_true_eq_false, not_false_eq_true, if_true, if_false, e_R_way_0, e_R_way_23, e_R_way_29, q_wayRow, q_gives, q_refuse]
    repeat' split
    all_goals exact inv_st 1 hi
theorem ak_slate (d : Nat) (x : Int) : Ak (d + 30) 90 271 [x] := by
  apply ak_of; intro s hi
  have hc := inv_c hi
  have hr := inv_rc hi
  by_cases c1 : 0 ≤ x ∧ x < s 37 3
  · have hw := inv_rs hi x c1
    apply c_M_slate
    simp (disch := first | assumption | omega) only [rn, wk, al, wr_e, td_e, tm_e, mset_eq, mset_ne, if_pos, if_neg, Int.reduceAdd, Int.reduceSub, Int.reduceMul, Int.reduceNeg, Int.reduceLT, Int.reduceLE, Int.reduceEq, Int.cast_ofNat_Int, eq_self, and_true, true_and, ite_self, true_or, or_true, false_or, or_false, and_false, false_and, not_true_eq_false, not_false_eq_true, if_true, if_false, e_M_slate_0, e_M_slate_27, e_M_slate_32, q_hasSlate, q_pass, q_fail]
    apply c_R_slate
    simp (disch := first | assumption | omega) only [rn, wk, al, wr_e, td_e, tm_e, mset_eq, mset_ne, if_pos, if_neg, Int.reduceAdd, Int.reduceSub, Int.reduceMul, Int.reduceNeg, Int.reduceLT, Int.reduceLE, Int.reduceEq, Int.cast_ofNat_Int, eq_self, and_true, true_and, ite_self, true_or, or_true, false_or, or_false, and_false, false_and, not_true_eq_false, not_false_eq_true, if_true, if_false, e_R_slate_0, e_R_slate_24, e_R_slate_29, q_isSlate, q_gives, q_refuse]
    exact ⟨hw, inv_st 0 hi⟩
  · apply c_M_slate
    simp (disch := first | assumption | omega) only [rn, wk, al, wr_e, td_e, tm_e, mset_eq, mset_ne, if_pos, if_neg, Int.reduceAdd, Int.reduceSub, Int.reduceMul, Int.reduceNeg, Int.reduceLT, Int.reduceLE, Int.reduceEq, Int.cast_ofNat_Int, eq_self, and_true, true_and, ite_self, true_or, or_true, false_or, or_false, and_false, false_and, not_true_eq_false, not_false_eq_true, if_true, if_false, e_M_slate_0, e_M_slate_27, e_M_slate_32, q_hasSlate, q_pass, q_fail]
    apply c_R_slate
    simp (disch := first | assumption | omega) only [rn, wk, al, wr_e, td_e, tm_e, mset_eq, mset_ne, if_pos, if_neg, Int.reduceAdd, Int.reduceSub, Int.reduceMul, Int.reduceNeg, Int.reduceLT, Int.reduceLE, Int.reduceEq, Int.cast_ofNat_Int, eq_self, and_true, true_and, ite_self, true_or, or_true, false_or, or_false, and_false, false_and, not_true_eq_false, not_false_eq_true, if_true, if_false, e_R_slate_0, e_R_slate_24, e_R_slate_29, q_isSlate, q_gives, q_refuse]
    exact inv_st 1 hi
theorem ak_caller (d : Nat) (c k : Int) : Ak (d + 30) 92 273 [c, k] := by
  apply ak_of; intro s hi
  have hc := inv_c hi
  have hr := inv_rc hi
  by_cases c1 : (0 ≤ c ∧ c < s 37 4) ∧ 0 ≤ k ∧ k ≤ 1
  · have hw := inv_rl hi c c1.1
    obtain rfl | rfl : k = 0 ∨ k = 1 := by omega
    · apply c_M_caller
      simp (disch := first | assumption | omega) only [rn, wk, al, wr_e, td_e, tm_e, mset_eq, mset_ne, if_pos, if_neg, Int.reduceAdd, Int.reduceSub, Int.reduceMul, Int.reduceNeg, Int.reduceLT, Int.reduceLE, Int.reduceEq, Int.cast_ofNat_Int, eq_self, and_true, true_and, ite_self, true_or, or_true, false_or, or_false, and_false, false_and, not_true_eq_false, not_false_eq_true, if_true, if_false, e_M_caller_0, e_M_caller_20, e_M_caller_26, e_M_caller_43, e_M_caller_52, q_hasCaller, q_pass, q_fail]
      apply c_R_caller
      simp (disch := first | assumption | omega) only [rn, wk, al, wr_e, td_e, tm_e, mset_eq, mset_ne, if_pos, if_neg, Int.reduceAdd, Int.reduceSub, Int.reduceMul, Int.reduceNeg, Int.reduceLT, Int.reduceLE, Int.reduceEq, Int.cast_ofNat_Int, eq_self, and_true, true_and, ite_self, true_or, or_true, false_or, or_false, and_false, false_and, not_true_eq_false, not_false_eq_true, if_true, if_false, e_R_caller_0, e_R_caller_17, e_R_caller_23, q_isCaller, q_callerRow, q_gives, q_refuse, Int.add_zero]
      exact ⟨hw.1, inv_st 0 hi⟩
    · apply c_M_caller
      simp (disch := first | assumption | omega) only [rn, wk, al, wr_e, td_e, tm_e, mset_eq, mset_ne, if_pos, if_neg, Int.reduceAdd, Int.reduceSub, Int.reduceMul, Int.reduceNeg, Int.reduceLT, Int.reduceLE, Int.reduceEq, Int.cast_ofNat_Int, eq_self, and_true, true_and, ite_self, true_or, or_true, false_or, or_false, and_false, false_and, not_true_eq_false, not_false_eq_true, if_true, if_false, e_M_caller_0, e_M_caller_20, e_M_caller_26, e_M_caller_43, e_M_caller_52, q_hasCaller, q_pass, q_fail]
      apply c_R_caller
      simp (disch := first | assumption | omega) only [rn, wk, al, wr_e, td_e, tm_e, mset_eq, mset_ne, if_pos, if_neg, Int.reduceAdd, Int.reduceSub, Int.reduceMul, Int.reduceNeg, Int.reduceLT, Int.reduceLE, Int.reduceEq, Int.cast_ofNat_Int, eq_self, and_true, true_and, ite_self, true_or, or_true, false_or, or_false, and_false, false_and, not_true_eq_false, not_false_eq_true, if_true, if_false, e_R_caller_0, e_R_caller_17, e_R_caller_23, q_isCaller, q_callerRow, q_gives, q_refuse]
      refine ⟨?_, inv_st 0 hi⟩
      rw [← hw.2.1]; congr 1; omega
  · apply c_M_caller
    simp (disch := first | assumption | omega) only [rn, wk, al, wr_e, td_e, tm_e, mset_eq, mset_ne, if_pos, if_neg, Int.reduceAdd, Int.reduceSub, Int.reduceMul, Int.reduceNeg, Int.reduceLT, Int.reduceLE, Int.reduceEq, Int.cast_ofNat_Int, eq_self, and_true, true_and, ite_self, true_or, or_true, false_or, or_false, and_false, false_and, not_true_eq_false, not_false_eq_true, if_true, if_false, e_M_caller_0, e_M_caller_20, e_M_caller_26, e_M_caller_43, e_M_caller_52, q_hasCaller, q_pass, q_fail]
    repeat' split
    all_goals
      apply c_R_caller
      simp (disch := first | assumption | omega) only [rn, wk, al, wr_e, td_e, tm_e, mset_eq, mset_ne, if_pos, if_neg, Int.reduceAdd, Int.reduceSub, Int.reduceMul, Int.reduceNeg, Int.reduceLT, Int.reduceLE, Int.reduceEq, Int.cast_ofNat_Int, eq_self, and_true, true_and, ite_self, true_or, or_true, false_or, or_false, and_false, false_and, not_true_eq_false, not_false_eq_true, if_true, if_false, e_R_caller_0, e_R_caller_17, e_R_caller_23, q_isCaller, q_callerRow, q_gives, q_refuse]
      repeat' split
      all_goals first | exact inv_st 1 hi | omega
theorem ak_recorded (d : Nat) (x b : Int) : Ak (d + 30) 135 316 [x, b] := by
  apply ak_of; intro s hi
  have hc := inv_c hi
  have hr := inv_rc hi
  by_cases c1 : (0 ≤ x ∧ x < s 37 3) ∧ 0 ≤ b ∧ b ≤ 90
  · by_cases c2 : s 37 6 = 1
    · have hw := inv_ru hi c2 x b (by omega) (by omega)
      apply c_M_recorded
      simp (disch := first | assumption | omega) only [rn, wk, al, wr_e, td_e, tm_e, mset_eq, mset_ne, if_pos, if_neg, Int.reduceAdd, Int.reduceSub, Int.reduceMul, Int.reduceNeg, Int.reduceLT, Int.reduceLE, Int.reduceEq, Int.cast_ofNat_Int, eq_self, and_true, true_and, ite_self, true_or, or_true, false_or, or_false, and_false, false_and, not_true_eq_false, not_false_eq_true, if_true, if_false, e_M_recorded_0, e_M_recorded_18, e_M_recorded_24, e_M_recorded_54, e_M_recorded_60, q_hasSlate, q_isBeat, q_cellOf, q_pass, q_fail]
      apply c_R_recorded
      simp (disch := first | assumption | omega) only [rn, wk, al, wr_e, td_e, tm_e, mset_eq, mset_ne, if_pos, if_neg, Int.reduceAdd, Int.reduceSub, Int.reduceMul, Int.reduceNeg, Int.reduceLT, Int.reduceLE, Int.reduceEq, Int.cast_ofNat_Int, eq_self, and_true, true_and, ite_self, true_or, or_true, false_or, or_false, and_false, false_and, not_true_eq_false, not_false_eq_true, if_true, if_false, e_R_recorded_0, e_R_recorded_15, e_R_recorded_21, e_R_recorded_40, e_R_recorded_59, q_isSlate, q_RisBeat, q_gives, q_refuse]
      exact ⟨hw, inv_st 0 hi⟩
    · apply c_M_recorded
      simp (disch := first | assumption | omega) only [rn, wk, al, wr_e, td_e, tm_e, mset_eq, mset_ne, if_pos, if_neg, Int.reduceAdd, Int.reduceSub, Int.reduceMul, Int.reduceNeg, Int.reduceLT, Int.reduceLE, Int.reduceEq, Int.cast_ofNat_Int, eq_self, and_true, true_and, ite_self, true_or, or_true, false_or, or_false, and_false, false_and, not_true_eq_false, not_false_eq_true, if_true, if_false, e_M_recorded_0, e_M_recorded_18, e_M_recorded_24, e_M_recorded_54, e_M_recorded_60, q_hasSlate, q_isBeat, q_cellOf, q_pass, q_fail]
      apply c_R_recorded
      simp (disch := first | assumption | omega) only [rn, wk, al, wr_e, td_e, tm_e, mset_eq, mset_ne, if_pos, if_neg, Int.reduceAdd, Int.reduceSub, Int.reduceMul, Int.reduceNeg, Int.reduceLT, Int.reduceLE, Int.reduceEq, Int.cast_ofNat_Int, eq_self, and_true, true_and, ite_self, true_or, or_true, false_or, or_false, and_false, false_and, not_true_eq_false, not_false_eq_true, if_true, if_false, e_R_recorded_0, e_R_recorded_15, e_R_recorded_21, e_R_recorded_40, e_R_recorded_59, q_isSlate, q_RisBeat, q_gives, q_refuse]
      exact inv_st 6 hi
  · apply c_M_recorded
    simp (disch := first | assumption | omega) only [rn, wk, al, wr_e, td_e, tm_e, mset_eq, mset_ne, if_pos, if_neg, Int.reduceAdd, Int.reduceSub, Int.reduceMul, Int.reduceNeg, Int.reduceLT, Int.reduceLE, Int.reduceEq, Int.cast_ofNat_Int, eq_self, and_true, true_and, ite_self, true_or, or_true, false_or, or_false, and_false, false_and, not_true_eq_false, not_false_eq_true, if_true, if_false, e_M_recorded_0, e_M_recorded_18, e_M_recorded_24, e_M_recorded_54, e_M_recorded_60, q_hasSlate, q_isBeat, q_cellOf, q_pass, q_fail]
    repeat' split
    all_goals
      apply c_R_recorded
      simp (disch := first | assumption | omega) only [rn, wk, al, wr_e, td_e, tm_e, mset_eq, mset_ne, if_pos, if_neg, Int.reduceAdd, Int.reduceSub, Int.reduceMul, Int.reduceNeg, Int.reduceLT, Int.reduceLE, Int.reduceEq, Int.cast_ofNat_Int, eq_self, and_true, true_and, ite_self, true_or, or_true, false_or, or_false, and_false, false_and, not_true_eq_false, not_false_eq_true, if_true, if_false, e_R_recorded_0, e_R_recorded_15, e_R_recorded_21, e_R_recorded_40, e_R_recorded_59, q_isSlate, q_RisBeat, q_gives, q_refuse]
      repeat' split
      all_goals first | exact inv_st 1 hi | omega
theorem ak_lived (d : Nat) (k : Int) : Ak (d + 30) 207 366 [k] := by
  apply ak_of; intro s hi
  have hf := hi.2.1
  unfold FA at hf
  by_cases c1 : 0 ≤ k ∧ k < 5
  · by_cases c2 : s 0 4 = 1
    · have hw := hf.2.2.2.2.2.2 c2 k c1
      apply c_M_lived
      simp (disch := first | assumption | omega) only [rn, wk, al, wr_e, td_e, tm_e, mset_eq, mset_ne, if_pos, if_neg, Int.reduceAdd, Int.reduceSub, Int.reduceMul, Int.reduceNeg, Int.reduceLT, Int.reduceLE, Int.reduceEq, Int.cast_ofNat_Int, eq_self, and_true, true_and, ite_self, true_or, or_true, false_or, or_false, and_false, false_and, not_true_eq_false, not_false_eq_true, if_true, if_false, e_M_lived_0, e_M_lived_13, e_M_lived_19, e_M_lived_39, e_M_lived_45, q_pass, q_fail]
      apply c_R_lived
      simp (disch := first | assumption | omega) only [rn, wk, al, wr_e, td_e, tm_e, mset_eq, mset_ne, if_pos, if_neg, Int.reduceAdd, Int.reduceSub, Int.reduceMul, Int.reduceNeg, Int.reduceLT, Int.reduceLE, Int.reduceEq, Int.cast_ofNat_Int, eq_self, and_true, true_and, ite_self, true_or, or_true, false_or, or_false, and_false, false_and, not_true_eq_false, not_false_eq_true, if_true, if_false, e_R_lived_0, e_R_lived_9, e_R_lived_17, e_R_lived_37, e_R_lived_43, q_gives, q_refuse]
      exact ⟨hw, inv_st 0 hi⟩
    · apply c_M_lived
      simp (disch := first | assumption | omega) only [rn, wk, al, wr_e, td_e, tm_e, mset_eq, mset_ne, if_pos, if_neg, Int.reduceAdd, Int.reduceSub, Int.reduceMul, Int.reduceNeg, Int.reduceLT, Int.reduceLE, Int.reduceEq, Int.cast_ofNat_Int, eq_self, and_true, true_and, ite_self, true_or, or_true, false_or, or_false, and_false, false_and, not_true_eq_false, not_false_eq_true, if_true, if_false, e_M_lived_0, e_M_lived_13, e_M_lived_19, e_M_lived_39, e_M_lived_45, q_pass, q_fail]
      apply c_R_lived
      simp (disch := first | assumption | omega) only [rn, wk, al, wr_e, td_e, tm_e, mset_eq, mset_ne, if_pos, if_neg, Int.reduceAdd, Int.reduceSub, Int.reduceMul, Int.reduceNeg, Int.reduceLT, Int.reduceLE, Int.reduceEq, Int.cast_ofNat_Int, eq_self, and_true, true_and, ite_self, true_or, or_true, false_or, or_false, and_false, false_and, not_true_eq_false, not_false_eq_true, if_true, if_false, e_R_lived_0, e_R_lived_9, e_R_lived_17, e_R_lived_37, e_R_lived_43, q_gives, q_refuse]
      exact inv_st 6 hi
  · apply c_M_lived
    simp (disch := first | assumption | omega) only [rn, wk, al, wr_e, td_e, tm_e, mset_eq, mset_ne, if_pos, if_neg, Int.reduceAdd, Int.reduceSub, Int.reduceMul, Int.reduceNeg, Int.reduceLT, Int.reduceLE, Int.reduceEq, Int.cast_ofNat_Int, eq_self, and_true, true_and, ite_self, true_or, or_true, false_or, or_false, and_false, false_and, not_true_eq_false, not_false_eq_true, if_true, if_false, e_M_lived_0, e_M_lived_13, e_M_lived_19, e_M_lived_39, e_M_lived_45, q_pass, q_fail]
    repeat' split
    all_goals
      apply c_R_lived
      simp (disch := first | assumption | omega) only [rn, wk, al, wr_e, td_e, tm_e, mset_eq, mset_ne, if_pos, if_neg, Int.reduceAdd, Int.reduceSub, Int.reduceMul, Int.reduceNeg, Int.reduceLT, Int.reduceLE, Int.reduceEq, Int.cast_ofNat_Int, eq_self, and_true, true_and, ite_self, true_or, or_true, false_or, or_false, and_false, false_and, not_true_eq_false, not_false_eq_true, if_true, if_false, e_R_lived_0, e_R_lived_9, e_R_lived_17, e_R_lived_37, e_R_lived_43, q_gives, q_refuse]
      repeat' split
      all_goals first | exact inv_st 1 hi | omega
