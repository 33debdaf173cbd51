/-! ===== H2: teach, say, hush ===== -/
theorem q_isNumber (d : Nat) (v l : Int) (s : Mem) : sem (d + 1) 109 [v, l] s = some (if l ≤ v ∧ v ≤ 99 then 1 else 0, s) := by
  apply CV_eq; apply c_M_isNumber
  simp (disch := first | assumption | omega) only [rn, wk, al, wr_e, td_e, tm_e, mset_eq, mset_ne, if_pos, if_neg, Int.reduceAdd, Int.reduceSub, Int.reduceMul, Int.reduceNeg, Int.reduceLT, Int.reduceLE, Int.reduceEq, Int.cast_ofNat_Int, eq_self, and_true, true_and, ite_self, true_or, or_true, false_or, or_false, and_false, false_and, not_true_eq_false, not_false_eq_true, if_true, if_false, e_M_isNumber_0, e_M_isNumber_15, e_M_isNumber_16]
  repeat' split
/-- what addCry leaves -/
def acT (s : Mem) (h c x y z : Int) : Mem := mset (mset (mset (mset s (h + 8) (9 * c + 3 * s (h + 7) c) x) (h + 8) (9 * c + 3 * s (h + 7) c + 1) y) (h + 8) (9 * c + 3 * s (h + 7) c + 2) z) (h + 7) c (s (h + 7) c + 1)
theorem q_addCry (d : Nat) {h : Int} (hh : isH h) (c x y z : Int) (s : Mem) (hc : 0 ≤ c ∧ c < 5) (hy : 0 ≤ s (h + 7) c ∧ s (h + 7) c < 3) : sem (d + 1) 62 [h, c, x, y, z] s = some (s (h + 7) c, acT s h c x y z) := by
  apply CV_eq; apply c_Hall_addCry
  have e : (c * 3 + s (h + 7) c) * 3 = 9 * c + 3 * s (h + 7) c := by omega
  unfold acT
  simp (disch := first | assumption | omega) only [rn, wk, al, wr_e, td_e, tm_e, mset_eq, mset_ne, if_pos, if_neg, Int.reduceAdd, Int.reduceSub, Int.reduceMul, Int.reduceNeg, Int.reduceLT, Int.reduceLE, Int.reduceEq, Int.cast_ofNat_Int, eq_self, and_true, true_and, ite_self, true_or, or_true, false_or, or_false, and_false, false_and, not_true_eq_false, not_false_eq_true, if_true, if_false, e_Hall_addCry_0, ah hh, e]
theorem ak_teach (d : Nat) (c x y z : Int) : Ak (d + 30) 108 294 [c, x, y, z] := by
  apply ak_of; intro s hi
  have hc := inv_c hi
  have hr := inv_rc hi
  by_cases c1 : (0 ≤ c ∧ c < s 37 4) ∧ (1 ≤ x ∧ x ≤ 99) ∧ (0 ≤ y ∧ y ≤ 99) ∧ (0 ≤ z ∧ z ≤ 99) ∧ (y = 0 → z = 0)
  · have hl := inv_vl hi c c1.1
    have hl2 := inv_rl hi c c1.1
    have e1 : 54 + 11 * c + 1 = 55 + 11 * c := by omega
    have hM : ∀ Q : Int → Mem → Prop, EV (d + 29) o_M_teach 63 [] [0, c, x, y, z, 0] s Q → EV (d + 29) o_M_teach 0 [] [0, c, x, y, z, 0] s Q := by
      intro Q hq
      by_cases cy : y = 0
      · have hz := c1.2.2.2.2 cy
        simp (disch := first | assumption | omega) only [rn, wk, al, wr_e, td_e, tm_e, mset_eq, mset_ne, if_pos, if_neg, Int.reduceAdd, Int.reduceSub, Int.reduceMul, Int.reduceNeg, Int.reduceLT, Int.reduceLE, Int.reduceEq, Int.cast_ofNat_Int, eq_self, and_true, true_and, ite_self, true_or, or_true, false_or, or_false, and_false, false_and, not_true_eq_false, not_false_eq_true, if_true, if_false, e_M_teach_0, e_M_teach_13, e_M_teach_14, e_M_teach_57, e_M_teach_82, q_hasCaller, q_isNumber]
        exact hq
      · simp (disch := first | assumption | omega) only [rn, wk, al, wr_e, td_e, tm_e, mset_eq, mset_ne, if_pos, if_neg, Int.reduceAdd, Int.reduceSub, Int.reduceMul, Int.reduceNeg, Int.reduceLT, Int.reduceLE, Int.reduceEq, Int.cast_ofNat_Int, eq_self, and_true, true_and, ite_self, true_or, or_true, false_or, or_false, and_false, false_and, not_true_eq_false, not_false_eq_true, if_true, if_false, e_M_teach_0, e_M_teach_13, e_M_teach_14, e_M_teach_57, e_M_teach_82, q_hasCaller, q_isNumber]
        exact hq
    have hR : ∀ (p : Int) (Q : Int → Mem → Prop) (t : Mem), t 138 3 = s 138 3 → EV (d + 29) o_R_teach 59 [] [137, c, x, y, z, 0, 0] t Q → EV (d + 29) o_R_teach 0 [] [137, c, x, y, z, 0, 0] t Q := by
      intro p Q t ht hq
      by_cases cy : y = 0
      · have hz := c1.2.2.2.2 cy
        simp (disch := first | assumption | omega) only [rn, wk, al, wr_e, td_e, tm_e, mset_eq, mset_ne, if_pos, if_neg, Int.reduceAdd, Int.reduceSub, Int.reduceMul, Int.reduceNeg, Int.reduceLT, Int.reduceLE, Int.reduceEq, Int.cast_ofNat_Int, eq_self, and_true, true_and, ite_self, true_or, or_true, false_or, or_false, and_false, false_and, not_true_eq_false, not_false_eq_true, if_true, if_false, e_R_teach_0, e_R_teach_44, e_R_teach_47, e_R_teach_53, e_R_teach_88, q_isCaller, q_isFrom]
        exact hq
      · simp (disch := first | assumption | omega) only [rn, wk, al, wr_e, td_e, tm_e, mset_eq, mset_ne, if_pos, if_neg, Int.reduceAdd, Int.reduceSub, Int.reduceMul, Int.reduceNeg, Int.reduceLT, Int.reduceLE, Int.reduceEq, Int.cast_ofNat_Int, eq_self, and_true, true_and, ite_self, true_or, or_true, false_or, or_false, and_false, false_and, not_true_eq_false, not_false_eq_true, if_true, if_false, e_R_teach_0, e_R_teach_44, e_R_teach_47, e_R_teach_53, e_R_teach_88, q_isCaller, q_isFrom]
        exact hq
    by_cases c2 : s 44 c = 3
    · apply c_M_teach
      apply hM
      simp (disch := first | assumption | omega) only [rn, wk, al, wr_e, td_e, tm_e, mset_eq, mset_ne, if_pos, if_neg, Int.reduceAdd, Int.reduceSub, Int.reduceMul, Int.reduceNeg, Int.reduceLT, Int.reduceLE, Int.reduceEq, Int.cast_ofNat_Int, eq_self, and_true, true_and, ite_self, true_or, or_true, false_or, or_false, and_false, false_and, not_true_eq_false, not_false_eq_true, if_true, if_false, e_M_teach_0, e_M_teach_13, e_M_teach_14, e_M_teach_57, e_M_teach_63, e_M_teach_82, q_pass, q_fail]
      apply c_R_teach
      apply hR 0 _ _ (by rw [mset_ne (by omega)])
      simp (disch := first | assumption | omega | ((simp (disch := omega) only [mset_ne, mset_eq, Int.reduceAdd]) <;> omega)) only [rn, wk, al, wr_e, td_e, tm_e, mset_eq, mset_ne, if_pos, if_neg, Int.reduceAdd, Int.reduceSub, Int.reduceMul, Int.reduceNeg, Int.reduceLT, Int.reduceLE, Int.reduceEq, Int.cast_ofNat_Int, eq_self, and_true, true_and, ite_self, true_or, or_true, false_or, or_false, and_false, false_and, not_true_eq_false, not_false_eq_true, if_true, if_false, e_R_teach_0, e_R_teach_44, e_R_teach_47, e_R_teach_53, e_R_teach_59, e_R_teach_88, q_callerRow, e1, q_gives, q_refuse]
      exact inv_st 4 hi
    · apply c_M_teach
      apply hM
      simp (disch := first | assumption | omega | ((simp (disch := omega) only [mset_ne, mset_eq, Int.reduceAdd]) <;> omega)) only [rn, wk, al, wr_e, td_e, tm_e, mset_eq, mset_ne, if_pos, if_neg, Int.reduceAdd, Int.reduceSub, Int.reduceMul, Int.reduceNeg, Int.reduceLT, Int.reduceLE, Int.reduceEq, Int.cast_ofNat_Int, eq_self, and_true, true_and, ite_self, true_or, or_true, false_or, or_false, and_false, false_and, not_true_eq_false, not_false_eq_true, if_true, if_false, e_M_teach_0, e_M_teach_13, e_M_teach_14, e_M_teach_57, e_M_teach_63, e_M_teach_82, q_addCry _ isH37, q_pass, q_fail]
      apply c_R_teach
      unfold acT
      simp only [Int.reduceAdd]
      apply hR 0 _ _ (by simp (disch := omega) only [mset_ne])
      have f0 : 54 + 11 * c + 2 + 3 * s 138 (55 + 11 * c) = 56 + 11 * c + 3 * s 44 c := by omega
      simp (disch := first | assumption | omega | ((simp (disch := omega) only [mset_ne, mset_eq, Int.reduceAdd]) <;> omega)) only [rn, wk, al, wr_e, td_e, tm_e, mset_eq, mset_ne, if_pos, if_neg, Int.reduceAdd, Int.reduceSub, Int.reduceMul, Int.reduceNeg, Int.reduceLT, Int.reduceLE, Int.reduceEq, Int.cast_ofNat_Int, eq_self, and_true, true_and, ite_self, true_or, or_true, false_or, or_false, and_false, false_and, not_true_eq_false, not_false_eq_true, if_true, if_false, e_R_teach_0, e_R_teach_44, e_R_teach_47, e_R_teach_53, e_R_teach_59, e_R_teach_88, q_callerRow, e1, f0, q_gives, q_refuse]
      refine ⟨hl2.2.1, inv_up hi (by simp (disch := omega) only [mset_eq, mset_ne]) (by intro c i hv h1 h2 h3; unfold Rv at hv; simp (disch := omega) only [mset_ne]) ?_⟩
      refine ⟨⟨keep_VC hi (by intros; simp (disch := omega) only [mset_nc, mset_ne]), keep_VW hi (by intros; simp (disch := omega) only [mset_nc, mset_ne]) (by intros; simp (disch := omega) only [mset_nc, mset_ne]) (by intros; simp (disch := omega) only [mset_nc, mset_ne]) (by intros; simp (disch := omega) only [mset_nc, mset_ne]) (by intros; simp (disch := omega) only [mset_nc, mset_ne]), keep_VS hi (by intros; simp (disch := omega) only [mset_nc, mset_ne]) (by intros; simp (disch := omega) only [mset_nc, mset_ne]) (by intros; simp (disch := omega) only [mset_nc, mset_ne]), ?_, keep_VU hi (by intros; simp (disch := omega) only [mset_nc, mset_ne]) (by intros; simp (disch := omega) only [mset_nc, mset_ne]) (by intros; simp (disch := omega) only [mset_nc, mset_ne]), keep_VN hi (by intros; simp (disch := omega) only [mset_nc, mset_ne]) (by intros; simp (disch := omega) only [mset_nc, mset_ne]) (by intros; simp (disch := omega) only [mset_nc, mset_ne]) (by intros; simp (disch := omega) only [mset_nc, mset_ne]) (by intros; simp (disch := omega) only [mset_nc, mset_ne]) (by intros; simp (disch := omega) only [mset_nc, mset_ne]), keep_VT hi (by intros; simp (disch := omega) only [mset_nc, mset_ne]) (by intros; simp (disch := omega) only [mset_nc, mset_ne]) (by intros; simp (disch := omega) only [mset_nc, mset_ne]) (by intros; simp (disch := omega) only [mset_nc, mset_ne])⟩, keep_RC hi (by intros; simp (disch := omega) only [mset_nc, mset_ne]) (by intros; simp (disch := omega) only [mset_nc, mset_ne]), keep_RW hi (by intros; simp (disch := omega) only [mset_nc, mset_ne]) (by intros; simp (disch := omega) only [mset_nc, mset_ne]) (by intros; simp (disch := omega) only [mset_nc, mset_ne]) (by intros; simp (disch := omega) only [mset_nc, mset_ne]) (by intros; simp (disch := omega) only [mset_nc, mset_ne]), keep_RS hi (by intros; simp (disch := omega) only [mset_nc, mset_ne]) (by intros; simp (disch := omega) only [mset_nc, mset_ne]) (by intros; simp (disch := omega) only [mset_nc, mset_ne]), ?_, ?_, keep_RU hi (by intros; simp (disch := omega) only [mset_nc, mset_ne]) (by intros; simp (disch := omega) only [mset_nc, mset_ne]) (by intros; simp (disch := omega) only [mset_nc, mset_ne]), keep_RN hi (by intros; simp (disch := omega) only [mset_nc, mset_ne]) (by intros; simp (disch := omega) only [mset_nc, mset_ne]) (by intros; simp (disch := omega) only [mset_nc, mset_ne]) (by intros; simp (disch := omega) only [mset_nc, mset_ne]) (by intros; simp (disch := omega) only [mset_nc, mset_ne]), keep_RT hi (by intros; simp (disch := omega) only [mset_nc, mset_ne]) (by intros; simp (disch := omega) only [mset_nc, mset_ne]) (by intros; simp (disch := omega) only [mset_nc, mset_ne])⟩
      · have hv := inv_vl hi
        intro c' h'
        have h'' : 0 ≤ c' ∧ c' < s 37 4 := by simpa (disch := omega) only [win, Int.reduceAdd, mset_ne] using h'
        have hv := hv c' h''
        by_cases e : c' = c
        · subst e
          simp (disch := omega) only [win, Int.reduceAdd, mset_ne, mset_eq]
          refine ⟨hv.1, by omega, ?_⟩
          intro k i a b
          by_cases e : k = s 44 c'
          · obtain rfl | rfl | rfl : i = 0 ∨ i = 1 ∨ i = 2 := by omega
            · simp (disch := omega) only [mset_ne, mset_eq]; omega
            · simp (disch := omega) only [mset_ne, mset_eq]; omega
            · simp (disch := omega) only [mset_ne, mset_eq]; omega
          · simp (disch := omega) only [mset_ne]
            exact hv.2.2 k i (by omega) b
        · simp (disch := omega) only [win, Int.reduceAdd, mset_ne]
          refine ⟨hv.1, hv.2.1, ?_⟩
          intro k i a b
          simp (disch := omega) only [mset_ne]
          exact hv.2.2 k i a b
      · have hv := inv_vl hi
        have hu := inv_rl hi
        intro c' h'
        have h'' : 0 ≤ c' ∧ c' < s 37 4 := by simpa (disch := omega) only [win, Int.reduceAdd, mset_ne] using h'
        have hv := hv c' h''
        have hu := hu c' h''
        by_cases e : c' = c
        · subst e
          simp (disch := omega) only [win, Int.reduceAdd, mset_ne, mset_eq]
          refine ⟨hu.1, by omega, ?_⟩
          intro k i a b
          by_cases e : k = s 44 c'
          · obtain rfl | rfl | rfl : i = 0 ∨ i = 1 ∨ i = 2 := by omega
            · simp (disch := omega) only [mset_ne, mset_eq]
            · simp (disch := omega) only [mset_ne, mset_eq]
            · simp (disch := omega) only [mset_ne, mset_eq]
          · simp (disch := omega) only [mset_ne]
            exact hu.2.2 k i (by omega) b
        · simp (disch := omega) only [win, Int.reduceAdd, mset_ne]
          refine ⟨hu.1, hu.2.1, ?_⟩
          intro k i a b
          simp (disch := omega) only [mset_ne]
          exact hu.2.2 k i a b
      · have hk := inv_rk hi
        intro k h'
        have h'' : 0 ≤ k ∧ k < s 37 5 := by simpa (disch := omega) only [win, Int.reduceAdd, mset_ne] using h'
        have hk := hk k h''
        by_cases e : s 138 (109 + 3 * k) = c
        · simp (disch := omega) only [win, Int.reduceAdd, mset_ne, mset_eq]
          refine ⟨hk.1, hk.2.1, ?_, hk.2.2.2⟩
          have := hk.2.2.1
          rw [e] at this
          omega
        · simp (disch := omega) only [win, Int.reduceAdd, mset_ne]
          exact hk
  · have hm : CV (d + 30) 294 [137, c, x, y, z] (mset s 0 0 1) fun r' u => r' = -1 ∧ Inv u := by
      apply c_R_teach
      simp (disch := first | assumption | omega) only [rn, wk, al, wr_e, td_e, tm_e, mset_eq, mset_ne, if_pos, if_neg, Int.reduceAdd, Int.reduceSub, Int.reduceMul, Int.reduceNeg, Int.reduceLT, Int.reduceLE, Int.reduceEq, Int.cast_ofNat_Int, eq_self, and_true, true_and, ite_self, true_or, or_true, false_or, or_false, and_false, false_and, not_true_eq_false, not_false_eq_true, if_true, if_false, e_R_teach_0, e_R_teach_44, e_R_teach_47, e_R_teach_53, e_R_teach_59, e_R_teach_88, q_isCaller, q_isFrom, q_refuse]
      repeat' split
      all_goals first | exact inv_st 1 hi | omega
    apply c_M_teach
    simp (disch := first | assumption | omega) only [rn, wk, al, wr_e, td_e, tm_e, mset_eq, mset_ne, if_pos, if_neg, Int.reduceAdd, Int.reduceSub, Int.reduceMul, Int.reduceNeg, Int.reduceLT, Int.reduceLE, Int.reduceEq, Int.cast_ofNat_Int, eq_self, and_true, true_and, ite_self, true_or, or_true, false_or, or_false, and_false, false_and, not_true_eq_false, not_false_eq_true, if_true, if_false, e_M_teach_0, e_M_teach_13, e_M_teach_14, e_M_teach_57, e_M_teach_63, e_M_teach_82, q_hasCaller, q_isNumber, q_fail]
    repeat' split
    all_goals first | exact hm | omega
