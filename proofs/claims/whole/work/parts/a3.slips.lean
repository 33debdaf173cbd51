/-! ===== H2: slips, slipsAt alike ===== -/
theorem q_problemOfGuess (d : Nat) (n m : Int) (s : Mem) (h6 : s 37 6 = 0 ∨ s 37 6 = 1) : sem (d + 1) 139 [0, n, m] s = some (if 0 ≤ n ∧ n ≤ m then (if s 37 6 = 1 then 0 else 6) else 1, s) := by
  apply CV_eq; apply c_M_problemOfGuess
  by_cases c0 : 0 ≤ n
  · by_cases c1 : n ≤ m
    · rw [if_pos ⟨c0, c1⟩]
      rcases h6 with h | h
      · simp (disch := first | assumption | omega) only [rn, wk, al, wr_e, td_e, tm_e, mset_eq, mset_ne, if_pos, if_neg, Int.reduceAdd, Int.reduceSub, Int.reduceMul, Int.reduceNeg, Int.reduceLT, Int.reduceLE, Int.reduceEq, Int.cast_ofNat_Int, eq_self, and_true, true_and, ite_self, true_or, or_true, false_or, or_false, and_false, false_and, not_true_eq_false, not_false_eq_true, if_true, if_false, e_M_problemOfGuess_0, e_M_problemOfGuess_9, e_M_problemOfGuess_11, e_M_problemOfGuess_25, e_M_problemOfGuess_27, h]
      · simp (disch := first | assumption | omega) only [rn, wk, al, wr_e, td_e, tm_e, mset_eq, mset_ne, if_pos, if_neg, Int.reduceAdd, Int.reduceSub, Int.reduceMul, Int.reduceNeg, Int.reduceLT, Int.reduceLE, Int.reduceEq, Int.cast_ofNat_Int, eq_self, and_true, true_and, ite_self, true_or, or_true, false_or, or_false, and_false, false_and, not_true_eq_false, not_false_eq_true, if_true, if_false, e_M_problemOfGuess_0, e_M_problemOfGuess_9, e_M_problemOfGuess_11, e_M_problemOfGuess_25, e_M_problemOfGuess_27, h]
    · rw [if_neg (fun h => c1 h.2)]
      simp (disch := first | assumption | omega) only [rn, wk, al, wr_e, td_e, tm_e, mset_eq, mset_ne, if_pos, if_neg, Int.reduceAdd, Int.reduceSub, Int.reduceMul, Int.reduceNeg, Int.reduceLT, Int.reduceLE, Int.reduceEq, Int.cast_ofNat_Int, eq_self, and_true, true_and, ite_self, true_or, or_true, false_or, or_false, and_false, false_and, not_true_eq_false, not_false_eq_true, if_true, if_false, e_M_problemOfGuess_0, e_M_problemOfGuess_9, e_M_problemOfGuess_11, e_M_problemOfGuess_25, e_M_problemOfGuess_27]
  · rw [if_neg (fun h => c0 h.1)]
    simp (disch := first | assumption | omega) only [rn, wk, al, wr_e, td_e, tm_e, mset_eq, mset_ne, if_pos, if_neg, Int.reduceAdd, Int.reduceSub, Int.reduceMul, Int.reduceNeg, Int.reduceLT, Int.reduceLE, Int.reduceEq, Int.cast_ofNat_Int, eq_self, and_true, true_and, ite_self, true_or, or_true, false_or, or_false, and_false, false_and, not_true_eq_false, not_false_eq_true, if_true, if_false, e_M_problemOfGuess_0, e_M_problemOfGuess_9, e_M_problemOfGuess_11, e_M_problemOfGuess_25, e_M_problemOfGuess_27]
theorem sUp_z {st : Bst} {v c o t : Int} (hc : 0 ≤ c ∧ c ≤ 2) (h : 0 ≤ st.2.1 ∧ st.2.1 ≤ 2) : 0 ≤ (sUp st v c o t).2.1 ∧ (sUp st v c o t).2.1 ≤ 2 := by
  unfold sUp
  split
  · exact hc
  · exact h
theorem sF2_z (A : Mem) (a : Int) : ∀ (n : Nat) (b : Int) (st : Bst), (0 ≤ st.2.1 ∧ st.2.1 ≤ 2) → 0 ≤ (sF2 A a n b st).2.1 ∧ (sF2 A a n b st).2.1 ≤ 2 := by
  intro n
  induction n with
  | zero => intro b st h; exact h
  | succ n ih =>
    intro b st h
    show 0 ≤ (sF2 A a n (b + 1) (if 0 < bq A (b / 21) then sUp st (n2 A a b) 2 a b else st)).2.1 ∧ (sF2 A a n (b + 1) (if 0 < bq A (b / 21) then sUp st (n2 A a b) 2 a b else st)).2.1 ≤ 2
    refine ih _ _ ?_
    by_cases c : 0 < bq A (b / 21)
    · rw [if_pos c]; exact sUp_z (by omega) h
    · rw [if_neg c]; exact h
theorem sF1_z (A : Mem) (m : Int) : ∀ (n : Nat) (a : Int) (st : Bst), (0 ≤ st.2.1 ∧ st.2.1 ≤ 2) → 0 ≤ (sF1 A m n a st).2.1 ∧ (sF1 A m n a st).2.1 ≤ 2 := by
  intro n
  induction n with
  | zero => intro b st h; exact h
  | succ n ih =>
    intro a st h
    show 0 ≤ (sF1 A m n (a + 1) (if 0 < bq A (a / 21) then (if 1 < m then sF2 A a n (a + 1) (sUp st (n1 A a) 1 a (-1)) else sUp st (n1 A a) 1 a (-1)) else st)).2.1 ∧ (sF1 A m n (a + 1) (if 0 < bq A (a / 21) then (if 1 < m then sF2 A a n (a + 1) (sUp st (n1 A a) 1 a (-1)) else sUp st (n1 A a) 1 a (-1)) else st)).2.1 ≤ 2
    refine ih _ _ ?_
    by_cases c : 0 < bq A (a / 21)
    · rw [if_pos c]
      by_cases c2 : 1 < m
      · rw [if_pos c2]; exact sF2_z A a n _ _ (sUp_z (by omega) h)
      · rw [if_neg c2]; exact sUp_z (by omega) h
    · rw [if_neg c]; exact h
theorem sAll_z (A : Mem) (m : Int) : 0 ≤ (sAll A m).2.1 ∧ (sAll A m).2.1 ≤ 2 := by
  unfold sAll
  split
  · exact sF1_z A m 315 0 _ (by show (0 : Int) ≤ 0 ∧ (0 : Int) ≤ 2; omega)
  · show (0 : Int) ≤ 0 ∧ (0 : Int) ≤ 2; omega
theorem inv_sl {s v t u : Mem} (p : Int) (hi : Inv s) (hv : Fgs s v) (ht : t = mset v 0 0 p) (hu : Frs t u) : Inv (mset u 137 2 p) := by
  subst ht
  refine inv_scr p hi ?_ ?_
  · intro c i h
    unfold Rv at h
    rw [hu c i (by omega) (by omega) (by omega), mset_ne (by omega), hv c i (by omega)]
  · rw [hu _ _ (by omega) (by omega) (by omega), mset_eq rfl rfl]
theorem ak_slips (d : Nat) (n : Int) : Ak (d + 30) 155 331 [n] := by
  apply ak_of; intro s hi
  have hc := inv_c hi
  have hr := inv_rc hi
  have pg := q_problemOfGuess (d + 28) n 2 s (by omega)
  by_cases c1 : 0 ≤ n ∧ n ≤ 2
  · rw [if_pos c1] at pg
    by_cases c6 : s 37 6 = 1
    · rw [if_pos c6] at pg
      obtain ⟨hK, hR⟩ := ka_of hi c6
      apply c_M_slips
      simp (disch := first | assumption | omega) only [rn, wk, al, wr_e, td_e, tm_e, mset_eq, mset_ne, if_pos, if_neg, Int.reduceAdd, Int.reduceSub, Int.reduceMul, Int.reduceNeg, Int.reduceLT, Int.reduceLE, Int.reduceEq, Int.cast_ofNat_Int, eq_self, and_true, true_and, ite_self, true_or, or_true, false_or, or_false, and_false, false_and, not_true_eq_false, not_false_eq_true, if_true, if_false, e_M_slips_0, e_M_slips_17, pg]
      refine EV_call (CV_mono (q_findSlips (d + 24) (win s 37) s (KA_VB hK) (fun _ _ _ => rfl) hK.2.2.2.2.2.2 n c1) ?_)
      rintro r v ⟨v1, v2⟩
      have m0 := v2.1
      simp (disch := first | assumption | omega) only [rn, wk, al, wr_e, td_e, tm_e, mset_eq, mset_ne, if_pos, if_neg, Int.reduceAdd, Int.reduceSub, Int.reduceMul, Int.reduceNeg, Int.reduceLT, Int.reduceLE, Int.reduceEq, Int.cast_ofNat_Int, eq_self, and_true, true_and, ite_self, true_or, or_true, false_or, or_false, and_false, false_and, not_true_eq_false, not_false_eq_true, if_true, if_false, q_pass, m0]
      have e138 : mset v 0 0 0 138 = s 138 := by rw [mset_nc (by omega)]; funext i; exact v1 _ _ (by omega)
      have g6 : v 138 6 = s 37 6 := by rw [v1 _ _ (by omega)]; omega
      apply c_R_slips
      simp (disch := first | assumption | omega) only [rn, wk, al, wr_e, td_e, tm_e, mset_eq, mset_ne, if_pos, if_neg, Int.reduceAdd, Int.reduceSub, Int.reduceMul, Int.reduceNeg, Int.reduceLT, Int.reduceLE, Int.reduceEq, Int.cast_ofNat_Int, eq_self, and_true, true_and, ite_self, true_or, or_true, false_or, or_false, and_false, false_and, not_true_eq_false, not_false_eq_true, if_true, if_false, e_R_slips_0, e_R_slips_18, e_R_slips_35, g6, q_isFrom]
      refine EV_call (CV_mono (q_laysSlips (d + 22) (win s 37) _ hK (KR_congr e138 hR) n c1) ?_)
      rintro r' u ⟨u1, hu⟩
      have m1 := hu.1
      simp (disch := first | assumption | omega) only [rn, wk, al, wr_e, td_e, tm_e, mset_eq, mset_ne, if_pos, if_neg, Int.reduceAdd, Int.reduceSub, Int.reduceMul, Int.reduceNeg, Int.reduceLT, Int.reduceLE, Int.reduceEq, Int.cast_ofNat_Int, eq_self, and_true, true_and, ite_self, true_or, or_true, false_or, or_false, and_false, false_and, not_true_eq_false, not_false_eq_true, if_true, if_false, e_R_slips_0, e_R_slips_18, e_R_slips_35, q_gives, m1]
      exact inv_sl 0 hi v1 rfl u1
    · rw [if_neg c6] at pg
      apply c_M_slips
      simp (disch := first | assumption | omega) only [rn, wk, al, wr_e, td_e, tm_e, mset_eq, mset_ne, if_pos, if_neg, Int.reduceAdd, Int.reduceSub, Int.reduceMul, Int.reduceNeg, Int.reduceLT, Int.reduceLE, Int.reduceEq, Int.cast_ofNat_Int, eq_self, and_true, true_and, ite_self, true_or, or_true, false_or, or_false, and_false, false_and, not_true_eq_false, not_false_eq_true, if_true, if_false, e_M_slips_0, e_M_slips_17, pg, q_fail]
      apply c_R_slips
      simp (disch := first | assumption | omega) only [rn, wk, al, wr_e, td_e, tm_e, mset_eq, mset_ne, if_pos, if_neg, Int.reduceAdd, Int.reduceSub, Int.reduceMul, Int.reduceNeg, Int.reduceLT, Int.reduceLE, Int.reduceEq, Int.cast_ofNat_Int, eq_self, and_true, true_and, ite_self, true_or, or_true, false_or, or_false, and_false, false_and, not_true_eq_false, not_false_eq_true, if_true, if_false, e_R_slips_0, e_R_slips_18, e_R_slips_35, q_isFrom, q_refuse]
      exact inv_st 6 hi
  · rw [if_neg c1] at pg
    have q := q_isFrom (d + 28) n 0 2 (mset s 0 0 1)
    rw [if_neg c1] at q
    apply c_M_slips
    simp (disch := first | assumption | omega) only [rn, wk, al, wr_e, td_e, tm_e, mset_eq, mset_ne, if_pos, if_neg, Int.reduceAdd, Int.reduceSub, Int.reduceMul, Int.reduceNeg, Int.reduceLT, Int.reduceLE, Int.reduceEq, Int.cast_ofNat_Int, eq_self, and_true, true_and, ite_self, true_or, or_true, false_or, or_false, and_false, false_and, not_true_eq_false, not_false_eq_true, if_true, if_false, e_M_slips_0, e_M_slips_17, pg, q_fail]
    apply c_R_slips
    simp (disch := first | assumption | omega) only [rn, wk, al, wr_e, td_e, tm_e, mset_eq, mset_ne, if_pos, if_neg, Int.reduceAdd, Int.reduceSub, Int.reduceMul, Int.reduceNeg, Int.reduceLT, Int.reduceLE, Int.reduceEq, Int.cast_ofNat_Int, eq_self, and_true, true_and, ite_self, true_or, or_true, false_or, or_false, and_false, false_and, not_true_eq_false, not_false_eq_true, if_true, if_false, e_R_slips_0, e_R_slips_18, e_R_slips_35, q, q_refuse]
    exact inv_st 1 hi
theorem ak_slipsAt (d : Nat) (n k : Int) : Ak (d + 30) 160 335 [n, k] := by
  apply ak_of; intro s hi
  have hc := inv_c hi
  have hr := inv_rc hi
  have pg := q_problemOfGuess (d + 28) n 2 s (by omega)
  by_cases ck : 0 ≤ k
  · by_cases c1 : 0 ≤ n ∧ n ≤ 2
    · rw [if_pos c1] at pg
      by_cases c6 : s 37 6 = 1
      · rw [if_pos c6] at pg
        obtain ⟨hK, hR⟩ := ka_of hi c6
        apply c_M_slipsAt
        simp (disch := first | assumption | omega) only [rn, wk, al, wr_e, td_e, tm_e, mset_eq, mset_ne, if_pos, if_neg, Int.reduceAdd, Int.reduceSub, Int.reduceMul, Int.reduceNeg, Int.reduceLT, Int.reduceLE, Int.reduceEq, Int.cast_ofNat_Int, eq_self, and_true, true_and, ite_self, true_or, or_true, false_or, or_false, and_false, false_and, not_true_eq_false, not_false_eq_true, if_true, if_false, e_M_slipsAt_0, e_M_slipsAt_8, e_M_slipsAt_14, e_M_slipsAt_25, e_M_slipsAt_64, e_M_slipsAt_70, pg]
        refine EV_call (CV_mono (q_findSlips (d + 24) (win s 37) s (KA_VB hK) (fun _ _ _ => rfl) hK.2.2.2.2.2.2 n c1) ?_)
        rintro r v ⟨v1, v2, v3, v4, v5⟩
        have hz := sAll_z (win s 37) n
        have e138 : ∀ p, mset v 0 0 p 138 = s 138 := fun p => by rw [mset_nc (by omega)]; funext i; exact v1 _ _ (by omega)
        have g6 : v 138 6 = s 37 6 := by rw [v1 _ _ (by omega)]; omega
        by_cases cs : k < (sAll (win s 37) n).2.1
        · by_cases c0 : k = 0
          · have w0 := v4 (by omega)
            subst c0
            simp (disch := first | assumption | omega) only [rn, wk, al, wr_e, td_e, tm_e, mset_eq, mset_ne, if_pos, if_neg, Int.reduceAdd, Int.reduceSub, Int.reduceMul, Int.reduceNeg, Int.reduceLT, Int.reduceLE, Int.reduceEq, Int.cast_ofNat_Int, eq_self, and_true, true_and, ite_self, true_or, or_true, false_or, or_false, and_false, false_and, not_true_eq_false, not_false_eq_true, if_true, if_false, e_M_slipsAt_0, e_M_slipsAt_8, e_M_slipsAt_14, e_M_slipsAt_25, e_M_slipsAt_64, e_M_slipsAt_70, v3, q_pass, w0]
            apply c_R_slipsAt
            simp (disch := first | assumption | omega) only [rn, wk, al, wr_e, td_e, tm_e, mset_eq, mset_ne, if_pos, if_neg, Int.reduceAdd, Int.reduceSub, Int.reduceMul, Int.reduceNeg, Int.reduceLT, Int.reduceLE, Int.reduceEq, Int.cast_ofNat_Int, eq_self, and_true, true_and, ite_self, true_or, or_true, false_or, or_false, and_false, false_and, not_true_eq_false, not_false_eq_true, if_true, if_false, e_R_slipsAt_0, e_R_slipsAt_16, e_R_slipsAt_22, e_R_slipsAt_39, e_R_slipsAt_59, e_R_slipsAt_71, e_R_slipsAt_75, g6, q_isFrom]
            refine EV_call (CV_mono (q_laysSlips (d + 22) (win s 37) _ hK (KR_congr (e138 _) hR) n c1) ?_)
            rintro r' u ⟨u1, u2, u3, u4, u5⟩
            simp (disch := first | assumption | omega) only [rn, wk, al, wr_e, td_e, tm_e, mset_eq, mset_ne, if_pos, if_neg, Int.reduceAdd, Int.reduceSub, Int.reduceMul, Int.reduceNeg, Int.reduceLT, Int.reduceLE, Int.reduceEq, Int.cast_ofNat_Int, eq_self, and_true, true_and, ite_self, true_or, or_true, false_or, or_false, and_false, false_and, not_true_eq_false, not_false_eq_true, if_true, if_false, e_R_slipsAt_0, e_R_slipsAt_16, e_R_slipsAt_22, e_R_slipsAt_39, e_R_slipsAt_59, e_R_slipsAt_71, e_R_slipsAt_75, q_gives, u3, u4]
            exact inv_sl 0 hi v1 rfl u1
          · have w0 := v5 (by omega)
            have ck1 : k = 1 := by omega
            subst ck1
            simp (disch := first | assumption | omega) only [rn, wk, al, wr_e, td_e, tm_e, mset_eq, mset_ne, if_pos, if_neg, Int.reduceAdd, Int.reduceSub, Int.reduceMul, Int.reduceNeg, Int.reduceLT, Int.reduceLE, Int.reduceEq, Int.cast_ofNat_Int, eq_self, and_true, true_and, ite_self, true_or, or_true, false_or, or_false, and_false, false_and, not_true_eq_false, not_false_eq_true, if_true, if_false, e_M_slipsAt_0, e_M_slipsAt_8, e_M_slipsAt_14, e_M_slipsAt_25, e_M_slipsAt_64, e_M_slipsAt_70, v3, q_pass, w0]
            apply c_R_slipsAt
            simp (disch := first | assumption | omega) only [rn, wk, al, wr_e, td_e, tm_e, mset_eq, mset_ne, if_pos, if_neg, Int.reduceAdd, Int.reduceSub, Int.reduceMul, Int.reduceNeg, Int.reduceLT, Int.reduceLE, Int.reduceEq, Int.cast_ofNat_Int, eq_self, and_true, true_and, ite_self, true_or, or_true, false_or, or_false, and_false, false_and, not_true_eq_false, not_false_eq_true, if_true, if_false, e_R_slipsAt_0, e_R_slipsAt_16, e_R_slipsAt_22, e_R_slipsAt_39, e_R_slipsAt_59, e_R_slipsAt_71, e_R_slipsAt_75, g6, q_isFrom]
            refine EV_call (CV_mono (q_laysSlips (d + 22) (win s 37) _ hK (KR_congr (e138 _) hR) n c1) ?_)
            rintro r' u ⟨u1, u2, u3, u4, u5⟩
            simp (disch := first | assumption | omega) only [rn, wk, al, wr_e, td_e, tm_e, mset_eq, mset_ne, if_pos, if_neg, Int.reduceAdd, Int.reduceSub, Int.reduceMul, Int.reduceNeg, Int.reduceLT, Int.reduceLE, Int.reduceEq, Int.cast_ofNat_Int, eq_self, and_true, true_and, ite_self, true_or, or_true, false_or, or_false, and_false, false_and, not_true_eq_false, not_false_eq_true, if_true, if_false, e_R_slipsAt_0, e_R_slipsAt_16, e_R_slipsAt_22, e_R_slipsAt_39, e_R_slipsAt_59, e_R_slipsAt_71, e_R_slipsAt_75, q_gives, u3, u5]
            exact inv_sl 0 hi v1 rfl u1
        · simp (disch := first | assumption | omega) only [rn, wk, al, wr_e, td_e, tm_e, mset_eq, mset_ne, if_pos, if_neg, Int.reduceAdd, Int.reduceSub, Int.reduceMul, Int.reduceNeg, Int.reduceLT, Int.reduceLE, Int.reduceEq, Int.cast_ofNat_Int, eq_self, and_true, true_and, ite_self, true_or, or_true, false_or, or_false, and_false, false_and, not_true_eq_false, not_false_eq_true, if_true, if_false, e_M_slipsAt_0, e_M_slipsAt_8, e_M_slipsAt_14, e_M_slipsAt_25, e_M_slipsAt_64, e_M_slipsAt_70, v3, q_fail]
          apply c_R_slipsAt
          simp (disch := first | assumption | omega) only [rn, wk, al, wr_e, td_e, tm_e, mset_eq, mset_ne, if_pos, if_neg, Int.reduceAdd, Int.reduceSub, Int.reduceMul, Int.reduceNeg, Int.reduceLT, Int.reduceLE, Int.reduceEq, Int.cast_ofNat_Int, eq_self, and_true, true_and, ite_self, true_or, or_true, false_or, or_false, and_false, false_and, not_true_eq_false, not_false_eq_true, if_true, if_false, e_R_slipsAt_0, e_R_slipsAt_16, e_R_slipsAt_22, e_R_slipsAt_39, e_R_slipsAt_59, e_R_slipsAt_71, e_R_slipsAt_75, g6, q_isFrom]
          refine EV_call (CV_mono (q_laysSlips (d + 22) (win s 37) _ hK (KR_congr (e138 _) hR) n c1) ?_)
          rintro r' u ⟨u1, u2, u3, u4, u5⟩
          simp (disch := first | assumption | omega) only [rn, wk, al, wr_e, td_e, tm_e, mset_eq, mset_ne, if_pos, if_neg, Int.reduceAdd, Int.reduceSub, Int.reduceMul, Int.reduceNeg, Int.reduceLT, Int.reduceLE, Int.reduceEq, Int.cast_ofNat_Int, eq_self, and_true, true_and, ite_self, true_or, or_true, false_or, or_false, and_false, false_and, not_true_eq_false, not_false_eq_true, if_true, if_false, e_R_slipsAt_0, e_R_slipsAt_16, e_R_slipsAt_22, e_R_slipsAt_39, e_R_slipsAt_59, e_R_slipsAt_71, e_R_slipsAt_75, q_refuse, u3]
          exact inv_sl 6 hi v1 rfl u1
      · rw [if_neg c6] at pg
        apply c_M_slipsAt
        simp (disch := first | assumption | omega) only [rn, wk, al, wr_e, td_e, tm_e, mset_eq, mset_ne, if_pos, if_neg, Int.reduceAdd, Int.reduceSub, Int.reduceMul, Int.reduceNeg, Int.reduceLT, Int.reduceLE, Int.reduceEq, Int.cast_ofNat_Int, eq_self, and_true, true_and, ite_self, true_or, or_true, false_or, or_false, and_false, false_and, not_true_eq_false, not_false_eq_true, if_true, if_false, e_M_slipsAt_0, e_M_slipsAt_8, e_M_slipsAt_14, e_M_slipsAt_25, e_M_slipsAt_64, e_M_slipsAt_70, pg, q_fail]
        apply c_R_slipsAt
        simp (disch := first | assumption | omega) only [rn, wk, al, wr_e, td_e, tm_e, mset_eq, mset_ne, if_pos, if_neg, Int.reduceAdd, Int.reduceSub, Int.reduceMul, Int.reduceNeg, Int.reduceLT, Int.reduceLE, Int.reduceEq, Int.cast_ofNat_Int, eq_self, and_true, true_and, ite_self, true_or, or_true, false_or, or_false, and_false, false_and, not_true_eq_false, not_false_eq_true, if_true, if_false, e_R_slipsAt_0, e_R_slipsAt_16, e_R_slipsAt_22, e_R_slipsAt_39, e_R_slipsAt_59, e_R_slipsAt_71, e_R_slipsAt_75, q_isFrom, q_refuse]
        exact inv_st 6 hi
    · rw [if_neg c1] at pg
      have q := q_isFrom (d + 28) n 0 2 (mset s 0 0 1)
      rw [if_neg c1] at q
      apply c_M_slipsAt
      simp (disch := first | assumption | omega) only [rn, wk, al, wr_e, td_e, tm_e, mset_eq, mset_ne, if_pos, if_neg, Int.reduceAdd, Int.reduceSub, Int.reduceMul, Int.reduceNeg, Int.reduceLT, Int.reduceLE, Int.reduceEq, Int.cast_ofNat_Int, eq_self, and_true, true_and, ite_self, true_or, or_true, false_or, or_false, and_false, false_and, not_true_eq_false, not_false_eq_true, if_true, if_false, e_M_slipsAt_0, e_M_slipsAt_8, e_M_slipsAt_14, e_M_slipsAt_25, e_M_slipsAt_64, e_M_slipsAt_70, pg, q_fail]
      apply c_R_slipsAt
      simp (disch := first | assumption | omega) only [rn, wk, al, wr_e, td_e, tm_e, mset_eq, mset_ne, if_pos, if_neg, Int.reduceAdd, Int.reduceSub, Int.reduceMul, Int.reduceNeg, Int.reduceLT, Int.reduceLE, Int.reduceEq, Int.cast_ofNat_Int, eq_self, and_true, true_and, ite_self, true_or, or_true, false_or, or_false, and_false, false_and, not_true_eq_false, not_false_eq_true, if_true, if_false, e_R_slipsAt_0, e_R_slipsAt_16, e_R_slipsAt_22, e_R_slipsAt_39, e_R_slipsAt_59, e_R_slipsAt_71, e_R_slipsAt_75, q, q_refuse]
      exact inv_st 1 hi
  · have hm : CV (d + 30) 335 [137, n, k] (mset s 0 0 1) fun r' u => r' = -1 ∧ Inv u := by
      apply c_R_slipsAt
      by_cases c1 : 0 ≤ n ∧ n ≤ 2
      · simp (disch := first | assumption | omega) only [rn, wk, al, wr_e, td_e, tm_e, mset_eq, mset_ne, if_pos, if_neg, Int.reduceAdd, Int.reduceSub, Int.reduceMul, Int.reduceNeg, Int.reduceLT, Int.reduceLE, Int.reduceEq, Int.cast_ofNat_Int, eq_self, and_true, true_and, ite_self, true_or, or_true, false_or, or_false, and_false, false_and, not_true_eq_false, not_false_eq_true, if_true, if_false, e_R_slipsAt_0, e_R_slipsAt_16, e_R_slipsAt_22, e_R_slipsAt_39, e_R_slipsAt_59, e_R_slipsAt_71, e_R_slipsAt_75, q_isFrom, q_refuse]
        exact inv_st 1 hi
      · have q := q_isFrom (d + 28) n 0 2 (mset s 0 0 1)
        rw [if_neg c1] at q
        simp (disch := first | assumption | omega) only [rn, wk, al, wr_e, td_e, tm_e, mset_eq, mset_ne, if_pos, if_neg, Int.reduceAdd, Int.reduceSub, Int.reduceMul, Int.reduceNeg, Int.reduceLT, Int.reduceLE, Int.reduceEq, Int.cast_ofNat_Int, eq_self, and_true, true_and, ite_self, true_or, or_true, false_or, or_false, and_false, false_and, not_true_eq_false, not_false_eq_true, if_true, if_false, e_R_slipsAt_0, e_R_slipsAt_16, e_R_slipsAt_22, e_R_slipsAt_39, e_R_slipsAt_59, e_R_slipsAt_71, e_R_slipsAt_75, q, q_refuse]
        exact inv_st 1 hi
    apply c_M_slipsAt
    simp (disch := first | assumption | omega) only [rn, wk, al, wr_e, td_e, tm_e, mset_eq, mset_ne, if_pos, if_neg, Int.reduceAdd, Int.reduceSub, Int.reduceMul, Int.reduceNeg, Int.reduceLT, Int.reduceLE, Int.reduceEq, Int.cast_ofNat_Int, eq_self, and_true, true_and, ite_self, true_or, or_true, false_or, or_false, and_false, false_and, not_true_eq_false, not_false_eq_true, if_true, if_false, e_M_slipsAt_0, e_M_slipsAt_8, e_M_slipsAt_14, e_M_slipsAt_25, e_M_slipsAt_64, e_M_slipsAt_70, q_fail]
    exact hm
