/-! ===== H2: calls that change one thing ===== -/
theorem mset_id {s : Mem} {a i v : Int} (h : s a i = v) : mset s a i v = s := by
  funext b j
  by_cases h1 : b = a ∧ j = i
  · rw [mset_eq h1.1 h1.2, h1.1, h1.2, h]
  · rw [mset_ne h1]
theorem q_goesTo (d : Nat) (r p : Int) (s : Mem) (hr : 0 ≤ r ∧ r < 5208) : sem (d + 1) 291 [137, r, p] s = some (if s 138 r = p then 0 else 1, mset s 138 r p) := by
  apply CV_eq; apply c_R_goesTo
  simp (disch := first | assumption | omega) only [rn, wk, al, wr_e, td_e, tm_e, mset_eq, mset_ne, if_pos, if_neg, Int.reduceAdd, Int.reduceSub, Int.reduceMul, Int.reduceNeg, Int.reduceLT, Int.reduceLE, Int.reduceEq, Int.cast_ofNat_Int, eq_self, and_true, true_and, ite_self, true_or, or_true, false_or, or_false, and_false, false_and, not_true_eq_false, not_false_eq_true, if_true, if_false, e_R_goesTo_0, e_R_goesTo_14, e_R_goesTo_15]
  repeat' split
theorem ak_walk (d : Nat) (c p : Int) : Ak (d + 30) 104 290 [c, p] := by
  apply ak_of; intro s hi
  have hc := inv_c hi
  have hr := inv_rc hi
  by_cases c1 : (0 ≤ c ∧ c < s 37 4) ∧ 0 ≤ p ∧ p < s 37 1
  · have hl := inv_rl hi c c1.1
    by_cases c2 : s 43 c = p
    · apply c_M_walk
      simp (disch := first | assumption | omega) only [rn, wk, al, wr_e, td_e, tm_e, mset_eq, mset_ne, if_pos, if_neg, Int.reduceAdd, Int.reduceSub, Int.reduceMul, Int.reduceNeg, Int.reduceLT, Int.reduceLE, Int.reduceEq, Int.cast_ofNat_Int, eq_self, and_true, true_and, ite_self, true_or, or_true, false_or, or_false, and_false, false_and, not_true_eq_false, not_false_eq_true, if_true, if_false, e_M_walk_0, e_M_walk_22, e_M_walk_28, e_M_walk_50, q_hasCaller, q_hasPlace, q_pass, q_fail]
      apply c_R_walk
      simp (disch := first | assumption | omega) only [rn, wk, al, wr_e, td_e, tm_e, mset_eq, mset_ne, if_pos, if_neg, Int.reduceAdd, Int.reduceSub, Int.reduceMul, Int.reduceNeg, Int.reduceLT, Int.reduceLE, Int.reduceEq, Int.cast_ofNat_Int, eq_self, and_true, true_and, ite_self, true_or, or_true, false_or, or_false, and_false, false_and, not_true_eq_false, not_false_eq_true, if_true, if_false, e_R_walk_0, e_R_walk_16, e_R_walk_22, e_R_walk_52, e_R_walk_58, q_isCaller, q_isPlace, q_callerRow, q_goesTo, q_gives, q_refuse]
      rw [mset_id (a := 138) (i := 54 + 11 * c) (by rw [mset_ne (by omega)]; omega)]
      exact inv_st 7 hi
    · apply c_M_walk
      simp (disch := first | assumption | omega) only [rn, wk, al, wr_e, td_e, tm_e, mset_eq, mset_ne, if_pos, if_neg, Int.reduceAdd, Int.reduceSub, Int.reduceMul, Int.reduceNeg, Int.reduceLT, Int.reduceLE, Int.reduceEq, Int.cast_ofNat_Int, eq_self, and_true, true_and, ite_self, true_or, or_true, false_or, or_false, and_false, false_and, not_true_eq_false, not_false_eq_true, if_true, if_false, e_M_walk_0, e_M_walk_22, e_M_walk_28, e_M_walk_50, q_hasCaller, q_hasPlace, q_pass, q_fail]
      apply c_R_walk
      simp (disch := first | assumption | omega) only [rn, wk, al, wr_e, td_e, tm_e, mset_eq, mset_ne, if_pos, if_neg, Int.reduceAdd, Int.reduceSub, Int.reduceMul, Int.reduceNeg, Int.reduceLT, Int.reduceLE, Int.reduceEq, Int.cast_ofNat_Int, eq_self, and_true, true_and, ite_self, true_or, or_true, false_or, or_false, and_false, false_and, not_true_eq_false, not_false_eq_true, if_true, if_false, e_R_walk_0, e_R_walk_16, e_R_walk_22, e_R_walk_52, e_R_walk_58, q_isCaller, q_isPlace, q_callerRow, q_goesTo, q_gives, q_refuse]
      refine ⟨hl.1, inv_up hi (by simp (disch := omega) only [mset_eq, mset_ne]) (by intro c i hv h1 h2 h3; unfold Rv at hv; simp (disch := omega) only [mset_ne]) ?_⟩
      refine ⟨⟨keep_VC hi (by intros; simp (disch := omega) only [mset_nc, mset_ne]), keep_VW hi (by intros; simp (disch := omega) only [mset_nc, mset_ne]) (by intros; simp (disch := omega) only [mset_nc, mset_ne]) (by intros; simp (disch := omega) only [mset_nc, mset_ne]) (by intros; simp (disch := omega) only [mset_nc, mset_ne]) (by intros; simp (disch := omega) only [mset_nc, mset_ne]), keep_VS hi (by intros; simp (disch := omega) only [mset_nc, mset_ne]) (by intros; simp (disch := omega) only [mset_nc, mset_ne]) (by intros; simp (disch := omega) only [mset_nc, mset_ne]), ?_, keep_VU hi (by intros; simp (disch := omega) only [mset_nc, mset_ne]) (by intros; simp (disch := omega) only [mset_nc, mset_ne]) (by intros; simp (disch := omega) only [mset_nc, mset_ne]), keep_VN hi (by intros; simp (disch := omega) only [mset_nc, mset_ne]) (by intros; simp (disch := omega) only [mset_nc, mset_ne]) (by intros; simp (disch := omega) only [mset_nc, mset_ne]) (by intros; simp (disch := omega) only [mset_nc, mset_ne]) (by intros; simp (disch := omega) only [mset_nc, mset_ne]) (by intros; simp (disch := omega) only [mset_nc, mset_ne]), keep_VT hi (by intros; simp (disch := omega) only [mset_nc, mset_ne]) (by intros; simp (disch := omega) only [mset_nc, mset_ne]) (by intros; simp (disch := omega) only [mset_nc, mset_ne]) (by intros; simp (disch := omega) only [mset_nc, mset_ne])⟩, keep_RC hi (by intros; simp (disch := omega) only [mset_nc, mset_ne]) (by intros; simp (disch := omega) only [mset_nc, mset_ne]), keep_RW hi (by intros; simp (disch := omega) only [mset_nc, mset_ne]) (by intros; simp (disch := omega) only [mset_nc, mset_ne]) (by intros; simp (disch := omega) only [mset_nc, mset_ne]) (by intros; simp (disch := omega) only [mset_nc, mset_ne]) (by intros; simp (disch := omega) only [mset_nc, mset_ne]), keep_RS hi (by intros; simp (disch := omega) only [mset_nc, mset_ne]) (by intros; simp (disch := omega) only [mset_nc, mset_ne]) (by intros; simp (disch := omega) only [mset_nc, mset_ne]), ?_, keep_RK hi (by intros; simp (disch := omega) only [mset_nc, mset_ne]) (by intros; simp (disch := omega) only [mset_nc, mset_ne]) (by intros; simp (disch := omega) only [mset_nc, mset_ne]) (by intros; simp (disch := omega) only [mset_nc, mset_ne]) (by intros; simp (disch := omega) only [mset_nc, mset_ne]), keep_RU hi (by intros; simp (disch := omega) only [mset_nc, mset_ne]) (by intros; simp (disch := omega) only [mset_nc, mset_ne]) (by intros; simp (disch := omega) only [mset_nc, mset_ne]), keep_RN hi (by intros; simp (disch := omega) only [mset_nc, mset_ne]) (by intros; simp (disch := omega) only [mset_nc, mset_ne]) (by intros; simp (disch := omega) only [mset_nc, mset_ne]) (by intros; simp (disch := omega) only [mset_nc, mset_ne]) (by intros; simp (disch := omega) only [mset_nc, mset_ne]), keep_RT hi (by intros; simp (disch := omega) only [mset_nc, mset_ne]) (by intros; simp (disch := omega) only [mset_nc, mset_ne]) (by intros; simp (disch := omega) only [mset_nc, mset_ne])⟩
      · have hv := inv_vl hi
        intro c' h'
        have h'' : 0 ≤ c' ∧ c' < s 37 4 := by simpa (disch := omega) only [win, Int.reduceAdd, mset_ne] using h'
        by_cases e : c' = c
        · subst e
          simp (disch := omega) only [win, Int.reduceAdd, mset_ne, mset_eq]
          exact ⟨c1.2, (hv c' h'').2⟩
        · simp (disch := omega) only [win, Int.reduceAdd, mset_ne]
          exact hv c' h''
      · have hv := inv_rl hi
        have hv2 := inv_vl hi
        intro c' h'
        have h'' : 0 ≤ c' ∧ c' < s 37 4 := by simpa (disch := omega) only [win, Int.reduceAdd, mset_ne] using h'
        have hv2 := hv2 c' h''
        by_cases e : c' = c
        · subst e
          simp (disch := omega) only [win, Int.reduceAdd, mset_ne, mset_eq]
          refine ⟨trivial, (hv c' h'').2.1, ?_⟩
          intro k i a b
          simp (disch := omega) only [mset_ne]
          exact (hv c' h'').2.2 k i a b
        · simp (disch := omega) only [win, Int.reduceAdd, mset_ne]
          refine ⟨(hv c' h'').1, (hv c' h'').2.1, ?_⟩
          intro k i a b
          simp (disch := omega) only [mset_ne]
          exact (hv c' h'').2.2 k i a b
  · apply c_M_walk
    simp (disch := first | assumption | omega) only [rn, wk, al, wr_e, td_e, tm_e, mset_eq, mset_ne, if_pos, if_neg, Int.reduceAdd, Int.reduceSub, Int.reduceMul, Int.reduceNeg, Int.reduceLT, Int.reduceLE, Int.reduceEq, Int.cast_ofNat_Int, eq_self, and_true, true_and, ite_self, true_or, or_true, false_or, or_false, and_false, false_and, not_true_eq_false, not_false_eq_true, if_true, if_false, e_M_walk_0, e_M_walk_22, e_M_walk_28, e_M_walk_50, q_hasCaller, q_hasPlace, q_pass, q_fail]
    repeat' split
    all_goals
      apply c_R_walk
      simp (disch := first | assumption | omega) only [rn, wk, al, wr_e, td_e, tm_e, mset_eq, mset_ne, if_pos, if_neg, Int.reduceAdd, Int.reduceSub, Int.reduceMul, Int.reduceNeg, Int.reduceLT, Int.reduceLE, Int.reduceEq, Int.cast_ofNat_Int, eq_self, and_true, true_and, ite_self, true_or, or_true, false_or, or_false, and_false, false_and, not_true_eq_false, not_false_eq_true, if_true, if_false, e_R_walk_0, e_R_walk_16, e_R_walk_22, e_R_walk_52, e_R_walk_58, q_isCaller, q_isPlace, q_callerRow, q_goesTo, q_gives, q_refuse]
      repeat' split
      all_goals first | exact inv_st 1 hi | omega
theorem ak_hang (d : Nat) (x p : Int) : Ak (d + 30) 106 292 [x, p] := by
  apply ak_of; intro s hi
  have hc := inv_c hi
  have hr := inv_rc hi
  by_cases c1 : (0 ≤ x ∧ x < s 37 3) ∧ 0 ≤ p ∧ p < s 37 1
  · have hl := inv_rs hi x c1.1
    by_cases c2 : s 42 x = p
    · apply c_M_hang
      simp (disch := first | assumption | omega) only [rn, wk, al, wr_e, td_e, tm_e, mset_eq, mset_ne, if_pos, if_neg, Int.reduceAdd, Int.reduceSub, Int.reduceMul, Int.reduceNeg, Int.reduceLT, Int.reduceLE, Int.reduceEq, Int.cast_ofNat_Int, eq_self, and_true, true_and, ite_self, true_or, or_true, false_or, or_false, and_false, false_and, not_true_eq_false, not_false_eq_true, if_true, if_false, e_M_hang_0, e_M_hang_22, e_M_hang_28, e_M_hang_50, q_hasSlate, q_hasPlace, q_pass, q_fail]
      apply c_R_hang
      simp (disch := first | assumption | omega) only [rn, wk, al, wr_e, td_e, tm_e, mset_eq, mset_ne, if_pos, if_neg, Int.reduceAdd, Int.reduceSub, Int.reduceMul, Int.reduceNeg, Int.reduceLT, Int.reduceLE, Int.reduceEq, Int.cast_ofNat_Int, eq_self, and_true, true_and, ite_self, true_or, or_true, false_or, or_false, and_false, false_and, not_true_eq_false, not_false_eq_true, if_true, if_false, e_R_hang_0, e_R_hang_16, e_R_hang_22, e_R_hang_52, e_R_hang_58, q_isSlate, q_isPlace, q_goesTo, q_gives, q_refuse]
      rw [mset_id (a := 138) (i := 50 + x) (by rw [mset_ne (by omega)]; omega)]
      exact inv_st 7 hi
    · apply c_M_hang
      simp (disch := first | assumption | omega) only [rn, wk, al, wr_e, td_e, tm_e, mset_eq, mset_ne, if_pos, if_neg, Int.reduceAdd, Int.reduceSub, Int.reduceMul, Int.reduceNeg, Int.reduceLT, Int.reduceLE, Int.reduceEq, Int.cast_ofNat_Int, eq_self, and_true, true_and, ite_self, true_or, or_true, false_or, or_false, and_false, false_and, not_true_eq_false, not_false_eq_true, if_true, if_false, e_M_hang_0, e_M_hang_22, e_M_hang_28, e_M_hang_50, q_hasSlate, q_hasPlace, q_pass, q_fail]
      apply c_R_hang
      simp (disch := first | assumption | omega) only [rn, wk, al, wr_e, td_e, tm_e, mset_eq, mset_ne, if_pos, if_neg, Int.reduceAdd, Int.reduceSub, Int.reduceMul, Int.reduceNeg, Int.reduceLT, Int.reduceLE, Int.reduceEq, Int.cast_ofNat_Int, eq_self, and_true, true_and, ite_self, true_or, or_true, false_or, or_false, and_false, false_and, not_true_eq_false, not_false_eq_true, if_true, if_false, e_R_hang_0, e_R_hang_16, e_R_hang_22, e_R_hang_52, e_R_hang_58, q_isSlate, q_isPlace, q_goesTo, q_gives, q_refuse]
      refine ⟨hl, inv_up hi (by simp (disch := omega) only [mset_eq, mset_ne]) (by intro c i hv h1 h2 h3; unfold Rv at hv; simp (disch := omega) only [mset_ne]) ?_⟩
      refine ⟨⟨keep_VC hi (by intros; simp (disch := omega) only [mset_nc, mset_ne]), keep_VW hi (by intros; simp (disch := omega) only [mset_nc, mset_ne]) (by intros; simp (disch := omega) only [mset_nc, mset_ne]) (by intros; simp (disch := omega) only [mset_nc, mset_ne]) (by intros; simp (disch := omega) only [mset_nc, mset_ne]) (by intros; simp (disch := omega) only [mset_nc, mset_ne]), ?_, keep_VL hi (by intros; simp (disch := omega) only [mset_nc, mset_ne]) (by intros; simp (disch := omega) only [mset_nc, mset_ne]) (by intros; simp (disch := omega) only [mset_nc, mset_ne]) (by intros; simp (disch := omega) only [mset_nc, mset_ne]) (by intros; simp (disch := omega) only [mset_nc, mset_ne]), keep_VU hi (by intros; simp (disch := omega) only [mset_nc, mset_ne]) (by intros; simp (disch := omega) only [mset_nc, mset_ne]) (by intros; simp (disch := omega) only [mset_nc, mset_ne]), keep_VN hi (by intros; simp (disch := omega) only [mset_nc, mset_ne]) (by intros; simp (disch := omega) only [mset_nc, mset_ne]) (by intros; simp (disch := omega) only [mset_nc, mset_ne]) (by intros; simp (disch := omega) only [mset_nc, mset_ne]) (by intros; simp (disch := omega) only [mset_nc, mset_ne]) (by intros; simp (disch := omega) only [mset_nc, mset_ne]), keep_VT hi (by intros; simp (disch := omega) only [mset_nc, mset_ne]) (by intros; simp (disch := omega) only [mset_nc, mset_ne]) (by intros; simp (disch := omega) only [mset_nc, mset_ne]) (by intros; simp (disch := omega) only [mset_nc, mset_ne])⟩, keep_RC hi (by intros; simp (disch := omega) only [mset_nc, mset_ne]) (by intros; simp (disch := omega) only [mset_nc, mset_ne]), keep_RW hi (by intros; simp (disch := omega) only [mset_nc, mset_ne]) (by intros; simp (disch := omega) only [mset_nc, mset_ne]) (by intros; simp (disch := omega) only [mset_nc, mset_ne]) (by intros; simp (disch := omega) only [mset_nc, mset_ne]) (by intros; simp (disch := omega) only [mset_nc, mset_ne]), ?_, keep_RL hi (by intros; simp (disch := omega) only [mset_nc, mset_ne]) (by intros; simp (disch := omega) only [mset_nc, mset_ne]) (by intros; simp (disch := omega) only [mset_nc, mset_ne]) (by intros; simp (disch := omega) only [mset_nc, mset_ne]) (by intros; simp (disch := omega) only [mset_nc, mset_ne]), keep_RK hi (by intros; simp (disch := omega) only [mset_nc, mset_ne]) (by intros; simp (disch := omega) only [mset_nc, mset_ne]) (by intros; simp (disch := omega) only [mset_nc, mset_ne]) (by intros; simp (disch := omega) only [mset_nc, mset_ne]) (by intros; simp (disch := omega) only [mset_nc, mset_ne]), keep_RU hi (by intros; simp (disch := omega) only [mset_nc, mset_ne]) (by intros; simp (disch := omega) only [mset_nc, mset_ne]) (by intros; simp (disch := omega) only [mset_nc, mset_ne]), keep_RN hi (by intros; simp (disch := omega) only [mset_nc, mset_ne]) (by intros; simp (disch := omega) only [mset_nc, mset_ne]) (by intros; simp (disch := omega) only [mset_nc, mset_ne]) (by intros; simp (disch := omega) only [mset_nc, mset_ne]) (by intros; simp (disch := omega) only [mset_nc, mset_ne]), keep_RT hi (by intros; simp (disch := omega) only [mset_nc, mset_ne]) (by intros; simp (disch := omega) only [mset_nc, mset_ne]) (by intros; simp (disch := omega) only [mset_nc, mset_ne])⟩
      · have hv := inv_vs hi
        intro c' h'
        have h'' : 0 ≤ c' ∧ c' < s 37 3 := by simpa (disch := omega) only [win, Int.reduceAdd, mset_ne] using h'
        by_cases e : c' = x
        · subst e
          simp (disch := omega) only [win, Int.reduceAdd, mset_ne, mset_eq]
          exact c1.2
        · simp (disch := omega) only [win, Int.reduceAdd, mset_ne]
          exact hv c' h''
      · have hv := inv_rs hi
        intro c' h'
        have h'' : 0 ≤ c' ∧ c' < s 37 3 := by simpa (disch := omega) only [win, Int.reduceAdd, mset_ne] using h'
        by_cases e : c' = x
        · subst e
          simp (disch := omega) only [win, Int.reduceAdd, mset_ne, mset_eq]
        · simp (disch := omega) only [win, Int.reduceAdd, mset_ne]
          exact hv c' h''
  · apply c_M_hang
    simp (disch := first | assumption | omega) only [rn, wk, al, wr_e, td_e, tm_e, mset_eq, mset_ne, if_pos, if_neg, Int.reduceAdd, Int.reduceSub, Int.reduceMul, Int.reduceNeg, Int.reduceLT, Int.reduceLE, Int.reduceEq, Int.cast_ofNat_Int, eq_self, and_true, true_and, ite_self, true_or, or_true, false_or, or_false, and_false, false_and, not_true_eq_false, not_false_eq_true, if_true, if_false, e_M_hang_0, e_M_hang_22, e_M_hang_28, e_M_hang_50, q_hasSlate, q_hasPlace, q_pass, q_fail]
    repeat' split
    all_goals
      apply c_R_hang
      simp (disch := first | assumption | omega) only [rn, wk, al, wr_e, td_e, tm_e, mset_eq, mset_ne, if_pos, if_neg, Int.reduceAdd, Int.reduceSub, Int.reduceMul, Int.reduceNeg, Int.reduceLT, Int.reduceLE, Int.reduceEq, Int.cast_ofNat_Int, eq_self, and_true, true_and, ite_self, true_or, or_true, false_or, or_false, and_false, false_and, not_true_eq_false, not_false_eq_true, if_true, if_false, e_R_hang_0, e_R_hang_16, e_R_hang_22, e_R_hang_52, e_R_hang_58, q_isSlate, q_isPlace, q_goesTo, q_gives, q_refuse]
      repeat' split
      all_goals first | exact inv_st 1 hi | omega
theorem ak_rule (d : Nat) (o : Int) : Ak (d + 30) 110 295 [o] := by
  apply ak_of; intro s hi
  have hc := inv_c hi
  have hr := inv_rc hi
  by_cases c1 : 0 ≤ o ∧ o ≤ 16
  · apply c_M_rule
    simp (disch := first | assumption | omega) only [rn, wk, al, wr_e, td_e, tm_e, mset_eq, mset_ne, if_pos, if_neg, Int.reduceAdd, Int.reduceSub, Int.reduceMul, Int.reduceNeg, Int.reduceLT, Int.reduceLE, Int.reduceEq, Int.cast_ofNat_Int, eq_self, and_true, true_and, ite_self, true_or, or_true, false_or, or_false, and_false, false_and, not_true_eq_false, not_false_eq_true, if_true, if_false, e_M_rule_0, e_M_rule_10, e_M_rule_16, q_grant, q_deny]
    apply c_R_rule
    simp (disch := first | assumption | omega) only [rn, wk, al, wr_e, td_e, tm_e, mset_eq, mset_ne, if_pos, if_neg, Int.reduceAdd, Int.reduceSub, Int.reduceMul, Int.reduceNeg, Int.reduceLT, Int.reduceLE, Int.reduceEq, Int.cast_ofNat_Int, eq_self, and_true, true_and, ite_self, true_or, or_true, false_or, or_false, and_false, false_and, not_true_eq_false, not_false_eq_true, if_true, if_false, e_R_rule_0, e_R_rule_18, q_isFrom, q_is]
    refine inv_up hi (by simp (disch := omega) only [mset_eq, mset_ne]) (by intro c i hv h1 h2 h3; unfold Rv at hv; simp (disch := omega) only [mset_ne]) ?_
    refine ⟨⟨?_, keep_VW hi (by intros; simp (disch := omega) only [mset_nc, mset_ne]) (by intros; simp (disch := omega) only [mset_nc, mset_ne]) (by intros; simp (disch := omega) only [mset_nc, mset_ne]) (by intros; simp (disch := omega) only [mset_nc, mset_ne]) (by intros; simp (disch := omega) only [mset_nc, mset_ne]), keep_VS hi (by intros; simp (disch := omega) only [mset_nc, mset_ne]) (by intros; simp (disch := omega) only [mset_nc, mset_ne]) (by intros; simp (disch := omega) only [mset_nc, mset_ne]), keep_VL hi (by intros; simp (disch := omega) only [mset_nc, mset_ne]) (by intros; simp (disch := omega) only [mset_nc, mset_ne]) (by intros; simp (disch := omega) only [mset_nc, mset_ne]) (by intros; simp (disch := omega) only [mset_nc, mset_ne]) (by intros; simp (disch := omega) only [mset_nc, mset_ne]), keep_VU hi (by intros; simp (disch := omega) only [mset_nc, mset_ne]) (by intros; simp (disch := omega) only [mset_nc, mset_ne]) (by intros; simp (disch := omega) only [mset_nc, mset_ne]), keep_VN hi (by intros; simp (disch := omega) only [mset_nc, mset_ne]) (by intros; simp (disch := omega) only [mset_nc, mset_ne]) (by intros; simp (disch := omega) only [mset_nc, mset_ne]) (by intros; simp (disch := omega) only [mset_nc, mset_ne]) (by intros; simp (disch := omega) only [mset_nc, mset_ne]) (by intros; simp (disch := omega) only [mset_nc, mset_ne]), keep_VT hi (by intros; simp (disch := omega) only [mset_nc, mset_ne]) (by intros; simp (disch := omega) only [mset_nc, mset_ne]) (by intros; simp (disch := omega) only [mset_nc, mset_ne]) (by intros; simp (disch := omega) only [mset_nc, mset_ne])⟩, ?_, keep_RW hi (by intros; simp (disch := omega) only [mset_nc, mset_ne]) (by intros; simp (disch := omega) only [mset_nc, mset_ne]) (by intros; simp (disch := omega) only [mset_nc, mset_ne]) (by intros; simp (disch := omega) only [mset_nc, mset_ne]) (by intros; simp (disch := omega) only [mset_nc, mset_ne]), keep_RS hi (by intros; simp (disch := omega) only [mset_nc, mset_ne]) (by intros; simp (disch := omega) only [mset_nc, mset_ne]) (by intros; simp (disch := omega) only [mset_nc, mset_ne]), keep_RL hi (by intros; simp (disch := omega) only [mset_nc, mset_ne]) (by intros; simp (disch := omega) only [mset_nc, mset_ne]) (by intros; simp (disch := omega) only [mset_nc, mset_ne]) (by intros; simp (disch := omega) only [mset_nc, mset_ne]) (by intros; simp (disch := omega) only [mset_nc, mset_ne]), keep_RK hi (by intros; simp (disch := omega) only [mset_nc, mset_ne]) (by intros; simp (disch := omega) only [mset_nc, mset_ne]) (by intros; simp (disch := omega) only [mset_nc, mset_ne]) (by intros; simp (disch := omega) only [mset_nc, mset_ne]) (by intros; simp (disch := omega) only [mset_nc, mset_ne]), keep_RU hi (by intros; simp (disch := omega) only [mset_nc, mset_ne]) (by intros; simp (disch := omega) only [mset_nc, mset_ne]) (by intros; simp (disch := omega) only [mset_nc, mset_ne]), keep_RN hi (by intros; simp (disch := omega) only [mset_nc, mset_ne]) (by intros; simp (disch := omega) only [mset_nc, mset_ne]) (by intros; simp (disch := omega) only [mset_nc, mset_ne]) (by intros; simp (disch := omega) only [mset_nc, mset_ne]) (by intros; simp (disch := omega) only [mset_nc, mset_ne]), keep_RT hi (by intros; simp (disch := omega) only [mset_nc, mset_ne]) (by intros; simp (disch := omega) only [mset_nc, mset_ne]) (by intros; simp (disch := omega) only [mset_nc, mset_ne])⟩
    · unfold VC
      simp (disch := omega) only [win, Int.reduceAdd, mset_ne, mset_eq]
      omega
    · unfold RC
      simp (disch := omega) only [win, Int.reduceAdd, mset_ne, mset_eq]
      exact ⟨hr.1, hr.2.1, hr.2.2.1, hr.2.2.2.1, hr.2.2.2.2.1, trivial, hr.2.2.2.2.2.2⟩
  · apply c_M_rule
    simp (disch := first | assumption | omega) only [rn, wk, al, wr_e, td_e, tm_e, mset_eq, mset_ne, if_pos, if_neg, Int.reduceAdd, Int.reduceSub, Int.reduceMul, Int.reduceNeg, Int.reduceLT, Int.reduceLE, Int.reduceEq, Int.cast_ofNat_Int, eq_self, and_true, true_and, ite_self, true_or, or_true, false_or, or_false, and_false, false_and, not_true_eq_false, not_false_eq_true, if_true, if_false, e_M_rule_0, e_M_rule_10, e_M_rule_16, q_grant, q_deny]
    repeat' split
    all_goals
      apply c_R_rule
      simp (disch := first | assumption | omega) only [rn, wk, al, wr_e, td_e, tm_e, mset_eq, mset_ne, if_pos, if_neg, Int.reduceAdd, Int.reduceSub, Int.reduceMul, Int.reduceNeg, Int.reduceLT, Int.reduceLE, Int.reduceEq, Int.cast_ofNat_Int, eq_self, and_true, true_and, ite_self, true_or, or_true, false_or, or_false, and_false, false_and, not_true_eq_false, not_false_eq_true, if_true, if_false, e_R_rule_0, e_R_rule_18, q_isFrom, q_is]
      first | exact inv_st 1 hi | omega
theorem ak_scrawl (d : Nat) (x b v : Int) : Ak (d + 30) 123 306 [x, b, v] := by
  apply ak_of; intro s hi
  have hc := inv_c hi
  have hr := inv_rc hi
  by_cases c1 : (0 ≤ x ∧ x < s 37 3) ∧ (0 ≤ b ∧ b ≤ 90) ∧ 0 ≤ v ∧ v ≤ 999
  · by_cases c2 : s 37 6 = 1
    · have hu := inv_ru hi c2 x b (by omega) (by omega)
      apply c_M_scrawl
      simp (disch := first | assumption | omega) only [rn, wk, al, wr_e, td_e, tm_e, mset_eq, mset_ne, if_pos, if_neg, Int.reduceAdd, Int.reduceSub, Int.reduceMul, Int.reduceNeg, Int.reduceLT, Int.reduceLE, Int.reduceEq, Int.cast_ofNat_Int, eq_self, and_true, true_and, ite_self, true_or, or_true, false_or, or_false, and_false, false_and, not_true_eq_false, not_false_eq_true, if_true, if_false, e_M_scrawl_0, e_M_scrawl_29, e_M_scrawl_35, e_M_scrawl_52, q_hasSlate, q_isBeat, q_cellOf, q_pass, q_fail]
      apply c_R_scrawl
      simp (disch := first | assumption | omega) only [rn, wk, al, wr_e, td_e, tm_e, mset_eq, mset_ne, if_pos, if_neg, Int.reduceAdd, Int.reduceSub, Int.reduceMul, Int.reduceNeg, Int.reduceLT, Int.reduceLE, Int.reduceEq, Int.cast_ofNat_Int, eq_self, and_true, true_and, ite_self, true_or, or_true, false_or, or_false, and_false, false_and, not_true_eq_false, not_false_eq_true, if_true, if_false, e_R_scrawl_0, e_R_scrawl_27, e_R_scrawl_33, e_R_scrawl_50, q_isSlate, q_RisBeat, q_isFrom, q_gives, q_refuse]
      refine ⟨hu, inv_up hi (by simp (disch := omega) only [mset_eq, mset_ne]) (by intro c i hv h1 h2 h3; unfold Rv at hv; simp (disch := omega) only [mset_ne]) ?_⟩
      refine ⟨⟨keep_VC hi (by intros; simp (disch := omega) only [mset_nc, mset_ne]), keep_VW hi (by intros; simp (disch := omega) only [mset_nc, mset_ne]) (by intros; simp (disch := omega) only [mset_nc, mset_ne]) (by intros; simp (disch := omega) only [mset_nc, mset_ne]) (by intros; simp (disch := omega) only [mset_nc, mset_ne]) (by intros; simp (disch := omega) only [mset_nc, mset_ne]), keep_VS hi (by intros; simp (disch := omega) only [mset_nc, mset_ne]) (by intros; simp (disch := omega) only [mset_nc, mset_ne]) (by intros; simp (disch := omega) only [mset_nc, mset_ne]), keep_VL hi (by intros; simp (disch := omega) only [mset_nc, mset_ne]) (by intros; simp (disch := omega) only [mset_nc, mset_ne]) (by intros; simp (disch := omega) only [mset_nc, mset_ne]) (by intros; simp (disch := omega) only [mset_nc, mset_ne]) (by intros; simp (disch := omega) only [mset_nc, mset_ne]), ?_, keep_VN hi (by intros; simp (disch := omega) only [mset_nc, mset_ne]) (by intros; simp (disch := omega) only [mset_nc, mset_ne]) (by intros; simp (disch := omega) only [mset_nc, mset_ne]) (by intros; simp (disch := omega) only [mset_nc, mset_ne]) (by intros; simp (disch := omega) only [mset_nc, mset_ne]) (by intros; simp (disch := omega) only [mset_nc, mset_ne]), keep_VT hi (by intros; simp (disch := omega) only [mset_nc, mset_ne]) (by intros; simp (disch := omega) only [mset_nc, mset_ne]) (by intros; simp (disch := omega) only [mset_nc, mset_ne]) (by intros; simp (disch := omega) only [mset_nc, mset_ne])⟩, keep_RC hi (by intros; simp (disch := omega) only [mset_nc, mset_ne]) (by intros; simp (disch := omega) only [mset_nc, mset_ne]), keep_RW hi (by intros; simp (disch := omega) only [mset_nc, mset_ne]) (by intros; simp (disch := omega) only [mset_nc, mset_ne]) (by intros; simp (disch := omega) only [mset_nc, mset_ne]) (by intros; simp (disch := omega) only [mset_nc, mset_ne]) (by intros; simp (disch := omega) only [mset_nc, mset_ne]), keep_RS hi (by intros; simp (disch := omega) only [mset_nc, mset_ne]) (by intros; simp (disch := omega) only [mset_nc, mset_ne]) (by intros; simp (disch := omega) only [mset_nc, mset_ne]), keep_RL hi (by intros; simp (disch := omega) only [mset_nc, mset_ne]) (by intros; simp (disch := omega) only [mset_nc, mset_ne]) (by intros; simp (disch := omega) only [mset_nc, mset_ne]) (by intros; simp (disch := omega) only [mset_nc, mset_ne]) (by intros; simp (disch := omega) only [mset_nc, mset_ne]), keep_RK hi (by intros; simp (disch := omega) only [mset_nc, mset_ne]) (by intros; simp (disch := omega) only [mset_nc, mset_ne]) (by intros; simp (disch := omega) only [mset_nc, mset_ne]) (by intros; simp (disch := omega) only [mset_nc, mset_ne]) (by intros; simp (disch := omega) only [mset_nc, mset_ne]), ?_, keep_RN hi (by intros; simp (disch := omega) only [mset_nc, mset_ne]) (by intros; simp (disch := omega) only [mset_nc, mset_ne]) (by intros; simp (disch := omega) only [mset_nc, mset_ne]) (by intros; simp (disch := omega) only [mset_nc, mset_ne]) (by intros; simp (disch := omega) only [mset_nc, mset_ne]), keep_RT hi (by intros; simp (disch := omega) only [mset_nc, mset_ne]) (by intros; simp (disch := omega) only [mset_nc, mset_ne]) (by intros; simp (disch := omega) only [mset_nc, mset_ne])⟩
      · have hv := inv_vu hi c2
        intro h6 x' b' h1 h2
        have hv := hv x' b' h1 h2
        by_cases e : x' = x ∧ b' = b
        · simp (disch := omega) only [win, Int.reduceAdd, mset_ne, mset_eq]
          omega
        · simp (disch := omega) only [win, Int.reduceAdd, mset_ne]
          exact hv
      · have hv := inv_ru hi c2
        intro h6 x' b' h1 h2
        have hv := hv x' b' h1 h2
        by_cases e : x' = x ∧ b' = b
        · simp (disch := omega) only [win, Int.reduceAdd, mset_ne, mset_eq]
        · simp (disch := omega) only [win, Int.reduceAdd, mset_ne]
          exact hv
    · apply c_M_scrawl
      simp (disch := first | assumption | omega) only [rn, wk, al, wr_e, td_e, tm_e, mset_eq, mset_ne, if_pos, if_neg, Int.reduceAdd, Int.reduceSub, Int.reduceMul, Int.reduceNeg, Int.reduceLT, Int.reduceLE, Int.reduceEq, Int.cast_ofNat_Int, eq_self, and_true, true_and, ite_self, true_or, or_true, false_or, or_false, and_false, false_and, not_true_eq_false, not_false_eq_true, if_true, if_false, e_M_scrawl_0, e_M_scrawl_29, e_M_scrawl_35, e_M_scrawl_52, q_hasSlate, q_isBeat, q_cellOf, q_pass, q_fail]
      apply c_R_scrawl
      simp (disch := first | assumption | omega) only [rn, wk, al, wr_e, td_e, tm_e, mset_eq, mset_ne, if_pos, if_neg, Int.reduceAdd, Int.reduceSub, Int.reduceMul, Int.reduceNeg, Int.reduceLT, Int.reduceLE, Int.reduceEq, Int.cast_ofNat_Int, eq_self, and_true, true_and, ite_self, true_or, or_true, false_or, or_false, and_false, false_and, not_true_eq_false, not_false_eq_true, if_true, if_false, e_R_scrawl_0, e_R_scrawl_27, e_R_scrawl_33, e_R_scrawl_50, q_isSlate, q_RisBeat, q_isFrom, q_gives, q_refuse]
      exact inv_st 6 hi
  · apply c_M_scrawl
    simp (disch := first | assumption | omega) only [rn, wk, al, wr_e, td_e, tm_e, mset_eq, mset_ne, if_pos, if_neg, Int.reduceAdd, Int.reduceSub, Int.reduceMul, Int.reduceNeg, Int.reduceLT, Int.reduceLE, Int.reduceEq, Int.cast_ofNat_Int, eq_self, and_true, true_and, ite_self, true_or, or_true, false_or, or_false, and_false, false_and, not_true_eq_false, not_false_eq_true, if_true, if_false, e_M_scrawl_0, e_M_scrawl_29, e_M_scrawl_35, e_M_scrawl_52, q_hasSlate, q_isBeat, q_cellOf, q_pass, q_fail]
    repeat' split
    all_goals
      apply c_R_scrawl
      simp (disch := first | assumption | omega) only [rn, wk, al, wr_e, td_e, tm_e, mset_eq, mset_ne, if_pos, if_neg, Int.reduceAdd, Int.reduceSub, Int.reduceMul, Int.reduceNeg, Int.reduceLT, Int.reduceLE, Int.reduceEq, Int.cast_ofNat_Int, eq_self, and_true, true_and, ite_self, true_or, or_true, false_or, or_false, and_false, false_and, not_true_eq_false, not_false_eq_true, if_true, if_false, e_R_scrawl_0, e_R_scrawl_27, e_R_scrawl_33, e_R_scrawl_50, q_isSlate, q_RisBeat, q_isFrom, q_gives, q_refuse]
      repeat' split
      all_goals first | exact inv_st 1 hi | omega
