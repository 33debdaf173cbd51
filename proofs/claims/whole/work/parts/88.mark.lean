/-! ===== H2: mark, undo alike ===== -/
theorem lp_copies1 (d : Nat) (a b : Int) (s : Mem) (ha : 0 ≤ a ∧ a ≤ 3) (hb : 0 ≤ b ∧ b ≤ 3) (hn : a ≠ b) (Q : Int → Mem → Prop) (hQ : EV d o_R_copies 39 [] [137, a, b, 868] (mcopy s 138 (868 * a) 138 (868 * b) 868) Q) : ∀ (n : Nat) (k : Int), 0 ≤ k → k + n = 868 → EV d o_R_copies 2 [] [137, a, b, k] (mcopy s 138 (868 * a) 138 (868 * b) k) Q := by
  intro n
  induction n with
  | zero =>
    intro k h0 hk
    have e : k = 868 := by omega
    subst e
    rw [e_R_copies_2]
    simp (disch := first | assumption | omega) only [rn, wk, al, wr_e, td_e, tm_e, mset_eq, mset_ne, if_pos, if_neg, Int.reduceAdd, Int.reduceSub, Int.reduceMul, Int.reduceNeg, Int.reduceLT, Int.reduceLE, Int.reduceEq, Int.cast_ofNat_Int, eq_self, and_true, true_and, ite_self, true_or, or_true, false_or, or_false, and_false, false_and, not_true_eq_false, not_false_eq_true, if_true, if_false]
    exact hQ
  | succ n ih =>
    intro k h0 hk
    rw [e_R_copies_2]
    simp (disch := first | assumption | omega) only [rn, wk, al, wr_e, td_e, tm_e, mset_eq, mset_ne, if_pos, if_neg, Int.reduceAdd, Int.reduceSub, Int.reduceMul, Int.reduceNeg, Int.reduceLT, Int.reduceLE, Int.reduceEq, Int.cast_ofNat_Int, eq_self, and_true, true_and, ite_self, true_or, or_true, false_or, or_false, and_false, false_and, not_true_eq_false, not_false_eq_true, if_true, if_false, mcopy_out, mcopy_step]
    exact ih (k + 1) (by omega) (by omega)
theorem lp_copies2 (d : Nat) (a b : Int) (s : Mem) (ha : 0 ≤ a ∧ a ≤ 3) (hb : 0 ≤ b ∧ b ≤ 3) (hn : a ≠ b) (Q : Int → Mem → Prop) (hQ : Q 0 (mcopy s 139 (16 * a) 139 (16 * b) 16)) : ∀ (n : Nat) (k : Int), 0 ≤ k → k + n = 16 → EV d o_R_copies 41 [] [137, a, b, k] (mcopy s 139 (16 * a) 139 (16 * b) k) Q := by
  intro n
  induction n with
  | zero =>
    intro k h0 hk
    have e : k = 16 := by omega
    subst e
    rw [e_R_copies_41]
    simp (disch := first | assumption | omega) only [rn, wk, al, wr_e, td_e, tm_e, mset_eq, mset_ne, if_pos, if_neg, Int.reduceAdd, Int.reduceSub, Int.reduceMul, Int.reduceNeg, Int.reduceLT, Int.reduceLE, Int.reduceEq, Int.cast_ofNat_Int, eq_self, and_true, true_and, ite_self, true_or, or_true, false_or, or_false, and_false, false_and, not_true_eq_false, not_false_eq_true, if_true, if_false, e_R_copies_0, e_R_copies_39, e_R_copies_75]
    exact hQ
  | succ n ih =>
    intro k h0 hk
    rw [e_R_copies_41]
    simp (disch := first | assumption | omega) only [rn, wk, al, wr_e, td_e, tm_e, mset_eq, mset_ne, if_pos, if_neg, Int.reduceAdd, Int.reduceSub, Int.reduceMul, Int.reduceNeg, Int.reduceLT, Int.reduceLE, Int.reduceEq, Int.cast_ofNat_Int, eq_self, and_true, true_and, ite_self, true_or, or_true, false_or, or_false, and_false, false_and, not_true_eq_false, not_false_eq_true, if_true, if_false, mcopy_out, mcopy_step]
    exact ih (k + 1) (by omega) (by omega)
theorem q_copies (d : Nat) (a b : Int) (s : Mem) (ha : 0 ≤ a ∧ a ≤ 3) (hb : 0 ≤ b ∧ b ≤ 3) (hn : a ≠ b) : sem (d + 1) 369 [137, a, b] s = some (0, mcopy (mcopy s 138 (868 * a) 138 (868 * b) 868) 139 (16 * a) 139 (16 * b) 16) := by
  apply CV_eq; apply c_R_copies
  simp (disch := first | assumption | omega) only [rn, wk, al, wr_e, td_e, tm_e, mset_eq, mset_ne, if_pos, if_neg, Int.reduceAdd, Int.reduceSub, Int.reduceMul, Int.reduceNeg, Int.reduceLT, Int.reduceLE, Int.reduceEq, Int.cast_ofNat_Int, eq_self, and_true, true_and, ite_self, true_or, or_true, false_or, or_false, and_false, false_and, not_true_eq_false, not_false_eq_true, if_true, if_false, e_R_copies_0, e_R_copies_39, e_R_copies_75]
  have h1 := lp_copies2 d a b (mcopy s 138 (868 * a) 138 (868 * b) 868) ha hb hn (fun x t => x = 0 ∧ t = mcopy (mcopy s 138 (868 * a) 138 (868 * b) 868) 139 (16 * a) 139 (16 * b) 16) ⟨rfl, rfl⟩ 16 0 (by omega) (by omega)
  rw [mcopy_nil] at h1
  have h2 := lp_copies1 d a b s ha hb hn (fun x t => x = 0 ∧ t = mcopy (mcopy s 138 (868 * a) 138 (868 * b) 868) 139 (16 * a) 139 (16 * b) 16) ?_ 868 0 (by omega) (by omega)
  · rw [mcopy_nil] at h2; exact h2
  · simp (disch := first | assumption | omega) only [rn, wk, al, wr_e, td_e, tm_e, mset_eq, mset_ne, if_pos, if_neg, Int.reduceAdd, Int.reduceSub, Int.reduceMul, Int.reduceNeg, Int.reduceLT, Int.reduceLE, Int.reduceEq, Int.cast_ofNat_Int, eq_self, and_true, true_and, ite_self, true_or, or_true, false_or, or_false, and_false, false_and, not_true_eq_false, not_false_eq_true, if_true, if_false, e_R_copies_0, e_R_copies_39, e_R_copies_75]
    exact h1
theorem q_markAt (d : Nat) (m : Int) (s : Mem) (hm : 0 ≤ m ∧ m ≤ 2) : sem (d + 1) 210 [0, m] s = some (77 + 20 * m, s) := by
  apply CV_eq; apply c_M_markAt
  obtain rfl | rfl | rfl : m = 0 ∨ m = 1 ∨ m = 2 := by omega
  all_goals simp (disch := first | assumption | omega) only [rn, wk, al, wr_e, td_e, tm_e, mset_eq, mset_ne, if_pos, if_neg, Int.reduceAdd, Int.reduceSub, Int.reduceMul, Int.reduceNeg, Int.reduceLT, Int.reduceLE, Int.reduceEq, Int.cast_ofNat_Int, eq_self, and_true, true_and, ite_self, true_or, or_true, false_or, or_false, and_false, false_and, not_true_eq_false, not_false_eq_true, if_true, if_false, e_M_markAt_0, e_M_markAt_9, e_M_markAt_21, e_M_markAt_25]
theorem isHm {m : Int} (hm : 0 ≤ m ∧ m ≤ 2) : isH (77 + 20 * m) := by unfold isH; omega
theorem ak_mark (d : Nat) : Ak (d + 30) 209 368 [] := by
  apply ak_of; intro s hi
  have hf := hi.2.1
  have hc := inv_c hi
  have ht : (0 ≤ s 49 0 ∧ s 49 0 ≤ 1) := hi.2.2.2.2.1.1.2.2.2.2.2.2.1
  unfold FA at hf
  by_cases c1 : s 0 3 = 3
  · apply c_M_mark
    simp (disch := first | assumption | omega) only [rn, wk, al, wr_e, td_e, tm_e, mset_eq, mset_ne, if_pos, if_neg, Int.reduceAdd, Int.reduceSub, Int.reduceMul, Int.reduceNeg, Int.reduceLT, Int.reduceLE, Int.reduceEq, Int.cast_ofNat_Int, eq_self, and_true, true_and, ite_self, true_or, or_true, false_or, or_false, and_false, false_and, not_true_eq_false, not_false_eq_true, if_true, if_false, e_M_mark_0, e_M_mark_14, q_fail]
    apply c_R_mark
    simp (disch := first | assumption | omega) only [rn, wk, al, wr_e, td_e, tm_e, mset_eq, mset_ne, if_pos, if_neg, Int.reduceAdd, Int.reduceSub, Int.reduceMul, Int.reduceNeg, Int.reduceLT, Int.reduceLE, Int.reduceEq, Int.cast_ofNat_Int, eq_self, and_true, true_and, ite_self, true_or, or_true, false_or, or_false, and_false, false_and, not_true_eq_false, not_false_eq_true, if_true, if_false, e_R_mark_0, e_R_mark_14, q_refuse]
    exact inv_st 4 hi
  · apply c_M_mark
    simp (disch := first | assumption | omega) only [rn, wk, al, wr_e, td_e, tm_e, mset_eq, mset_ne, if_pos, if_neg, Int.reduceAdd, Int.reduceSub, Int.reduceMul, Int.reduceNeg, Int.reduceLT, Int.reduceLE, Int.reduceEq, Int.cast_ofNat_Int, eq_self, and_true, true_and, ite_self, true_or, or_true, false_or, or_false, and_false, false_and, not_true_eq_false, not_false_eq_true, if_true, if_false, e_M_mark_0]
    rw [e_M_mark_14]
    simp (disch := first | assumption | omega) only [rn, wk, al, wr_e, td_e, tm_e, mset_eq, mset_ne, if_pos, if_neg, Int.reduceAdd, Int.reduceSub, Int.reduceMul, Int.reduceNeg, Int.reduceLT, Int.reduceLE, Int.reduceEq, Int.cast_ofNat_Int, eq_self, and_true, true_and, ite_self, true_or, or_true, false_or, or_false, and_false, false_and, not_true_eq_false, not_false_eq_true, if_true, if_false, q_markAt]
    refine EV_call (CV_mono (q_takeFrom _ (isHm (m := s 0 3) (by omega)) isH37 (by omega) s (by show s (37 + 12) 0 = 0 ∨ s (37 + 12) 0 = 1; simp only [Int.reduceAdd]; omega) (by omega)) ?_)
    rintro r t ⟨p1, p2⟩
    have e3 : t 0 3 = s 0 3 := p2 _ _ (by omega)
    have e47 : t 137 47 = s 0 3 := by rw [p2 _ _ (by omega)]; omega
    simp (disch := first | assumption | omega) only [rn, wk, al, wr_e, td_e, tm_e, mset_eq, mset_ne, if_pos, if_neg, Int.reduceAdd, Int.reduceSub, Int.reduceMul, Int.reduceNeg, Int.reduceLT, Int.reduceLE, Int.reduceEq, Int.cast_ofNat_Int, eq_self, and_true, true_and, ite_self, true_or, or_true, false_or, or_false, and_false, false_and, not_true_eq_false, not_false_eq_true, if_true, if_false, e3, q_pass]
    apply c_R_mark
    have q := q_copies (d + 28) 0 (s 0 3 + 1) (mset (mset (mset t 0 3 (s 0 3 + 1)) 0 0 0) 137 47 (s 0 3 + 1)) (by omega) (by omega) (by omega)
    simp (disch := first | assumption | omega) only [rn, wk, al, wr_e, td_e, tm_e, mset_eq, mset_ne, if_pos, if_neg, Int.reduceAdd, Int.reduceSub, Int.reduceMul, Int.reduceNeg, Int.reduceLT, Int.reduceLE, Int.reduceEq, Int.cast_ofNat_Int, eq_self, and_true, true_and, ite_self, true_or, or_true, false_or, or_false, and_false, false_and, not_true_eq_false, not_false_eq_true, if_true, if_false, e_R_mark_0, e_R_mark_14, e47, q, q_gives, mcopy_out]
    have G : ∀ c i, ¬ (77 + 20 * s 0 3 ≤ c ∧ c < 77 + 20 * s 0 3 + 20) → t c i = s c i := p2
    refine ⟨by simp (disch := omega) only [mset_eq, mset_ne, mcopy_out], ?_, keep_TR hi ?_, keep_TP hi ?_ ?_ ?_ ?_, keep_HR hi ?_ ?_ ?_, ?_⟩
    · unfold FA
      simp (disch := omega) only [mset_eq, mset_ne, mcopy_out, G]
      refine ⟨hf.1, hf.2.1, ⟨trivial, by omega, by omega⟩, hf.2.2.2.1, hf.2.2.2.2.1, hf.2.2.2.2.2.1, hf.2.2.2.2.2.2⟩
    rotate_left 8
    · intro k hk
      simp (disch := omega) only [mset_eq, mset_ne, mcopy_out] at hk
      by_cases e : k = s 0 3
      · subst e
        refine HR_congr ?_ ?_ ?_ hi.2.2.2.2.1
        · intro j i a b
          simp (disch := omega) only [win, mset_ne, mcopy_out]
          exact p1 j i a b
        · intro i a b
          simp (disch := omega) only [mset_ne, mcopy_out, mcopy_in, G]
          congr 1; omega
        · intro i a b
          simp (disch := omega) only [mset_ne, mcopy_out, mcopy_in, G]
          congr 1; omega
      · refine HR_congr ?_ ?_ ?_ (hi.2.2.2.2.2 k (by omega))
        · intro j i a b
          simp (disch := omega) only [win, mset_ne, mcopy_out, G]
        · intro i a b
          simp (disch := omega) only [mset_ne, mcopy_out, G]
        · intro i a b
          simp (disch := omega) only [mset_ne, mcopy_out, G]
    all_goals
      intros
      simp (disch := omega) only [mset_ne, mcopy_out, G]
theorem ak_undo (d : Nat) : Ak (d + 30) 211 370 [] := by
  apply ak_of; intro s hi
  have hf := hi.2.1
  unfold FA at hf
  by_cases c1 : s 0 3 = 0
  · apply c_M_undo
    simp (disch := first | assumption | omega) only [rn, wk, al, wr_e, td_e, tm_e, mset_eq, mset_ne, if_pos, if_neg, Int.reduceAdd, Int.reduceSub, Int.reduceMul, Int.reduceNeg, Int.reduceLT, Int.reduceLE, Int.reduceEq, Int.cast_ofNat_Int, eq_self, and_true, true_and, ite_self, true_or, or_true, false_or, or_false, and_false, false_and, not_true_eq_false, not_false_eq_true, if_true, if_false, e_M_undo_0, e_M_undo_14, q_fail]
    apply c_R_undo
    simp (disch := first | assumption | omega) only [rn, wk, al, wr_e, td_e, tm_e, mset_eq, mset_ne, if_pos, if_neg, Int.reduceAdd, Int.reduceSub, Int.reduceMul, Int.reduceNeg, Int.reduceLT, Int.reduceLE, Int.reduceEq, Int.cast_ofNat_Int, eq_self, and_true, true_and, ite_self, true_or, or_true, false_or, or_false, and_false, false_and, not_true_eq_false, not_false_eq_true, if_true, if_false, e_R_undo_0, e_R_undo_14, q_refuse]
    exact inv_st 6 hi
  · have hk := hi.2.2.2.2.2 (s 0 3 - 1) (by omega)
    have ht : (0 ≤ s (77 + 20 * (s 0 3 - 1) + 12) 0 ∧ s (77 + 20 * (s 0 3 - 1) + 12) 0 ≤ 1) := hk.1.2.2.2.2.2.2.1
    have h6 : (0 ≤ s (77 + 20 * (s 0 3 - 1) + 0) 6 ∧ s (77 + 20 * (s 0 3 - 1) + 0) 6 ≤ 1) := hk.1.1.2.2.2.2.2.2
    rw [Int.add_zero] at h6
    apply c_M_undo
    simp (disch := first | assumption | omega) only [rn, wk, al, wr_e, td_e, tm_e, mset_eq, mset_ne, if_pos, if_neg, Int.reduceAdd, Int.reduceSub, Int.reduceMul, Int.reduceNeg, Int.reduceLT, Int.reduceLE, Int.reduceEq, Int.cast_ofNat_Int, eq_self, and_true, true_and, ite_self, true_or, or_true, false_or, or_false, and_false, false_and, not_true_eq_false, not_false_eq_true, if_true, if_false, e_M_undo_0]
    rw [e_M_undo_14]
    simp (disch := first | assumption | omega) only [rn, wk, al, wr_e, td_e, tm_e, mset_eq, mset_ne, if_pos, if_neg, Int.reduceAdd, Int.reduceSub, Int.reduceMul, Int.reduceNeg, Int.reduceLT, Int.reduceLE, Int.reduceEq, Int.cast_ofNat_Int, eq_self, and_true, true_and, ite_self, true_or, or_true, false_or, or_false, and_false, false_and, not_true_eq_false, not_false_eq_true, if_true, if_false, q_markAt]
    refine EV_call (CV_mono (q_takeFrom _ isH37 (isHm (m := s 0 3 - 1) (by omega)) (by omega) (mset s 0 3 (s 0 3 - 1)) (by rw [mset_ne (by omega)]; omega) (by rw [mset_ne (by omega)]; omega)) ?_)
    rintro r t ⟨p1, p2⟩
    have e3 : t 0 3 = s 0 3 - 1 := by rw [p2 _ _ (by omega), mset_eq rfl rfl]
    have e47 : t 137 47 = s 0 3 := by rw [p2 _ _ (by omega), mset_ne (by omega)]; omega
    simp (disch := first | assumption | omega) only [rn, wk, al, wr_e, td_e, tm_e, mset_eq, mset_ne, if_pos, if_neg, Int.reduceAdd, Int.reduceSub, Int.reduceMul, Int.reduceNeg, Int.reduceLT, Int.reduceLE, Int.reduceEq, Int.cast_ofNat_Int, eq_self, and_true, true_and, ite_self, true_or, or_true, false_or, or_false, and_false, false_and, not_true_eq_false, not_false_eq_true, if_true, if_false, e3, q_pass]
    apply c_R_undo
    have q := q_copies (d + 28) (s 0 3) 0 (mset t 0 0 0) (by omega) (by omega) (by omega)
    simp (disch := first | assumption | omega) only [rn, wk, al, wr_e, td_e, tm_e, mset_eq, mset_ne, if_pos, if_neg, Int.reduceAdd, Int.reduceSub, Int.reduceMul, Int.reduceNeg, Int.reduceLT, Int.reduceLE, Int.reduceEq, Int.cast_ofNat_Int, eq_self, and_true, true_and, ite_self, true_or, or_true, false_or, or_false, and_false, false_and, not_true_eq_false, not_false_eq_true, if_true, if_false, e_R_undo_0, e_R_undo_14, e47, q, q_gives, mcopy_out]
    have G : ∀ c i, ¬ (37 ≤ c ∧ c < 57) → ¬ (c = 0 ∧ i = 3) → t c i = s c i := fun c i a b => by
      rw [p2 c i (by omega), mset_ne b]
    refine ⟨by simp (disch := omega) only [mset_eq, mset_ne, mcopy_out], ?_, keep_TR hi ?_, keep_TP hi ?_ ?_ ?_ ?_, ?_, ?_⟩
    · unfold FA
      simp (disch := omega) only [mset_eq, mset_ne, mcopy_out, e3, G]
      refine ⟨hf.1, hf.2.1, ⟨trivial, by omega, by omega⟩, hf.2.2.2.1, hf.2.2.2.2.1, hf.2.2.2.2.2.1, hf.2.2.2.2.2.2⟩
    rotate_left 5
    · refine HR_congr ?_ ?_ ?_ hk
      · intro j i a b
        simp (disch := omega) only [win, mset_ne, mcopy_out]
        rw [p1 j i a b, mset_ne (by omega)]
      · intro i a b
        simp (disch := omega) only [mset_ne, mcopy_out, mcopy_in, G]
        congr 1; omega
      · intro i a b
        simp (disch := omega) only [mset_ne, mcopy_out, mcopy_in, G]
        congr 1; omega
    · intro k hk
      simp (disch := omega) only [mset_eq, mset_ne, mcopy_out, e3] at hk
      refine HR_congr ?_ ?_ ?_ (hi.2.2.2.2.2 k (by omega))
      · intro j i a b
        simp (disch := omega) only [win, mset_ne, mcopy_out, G]
      · intro i a b
        simp (disch := omega) only [mset_ne, mcopy_out, G]
      · intro i a b
        simp (disch := omega) only [mset_ne, mcopy_out, G]
    all_goals
      intros
      simp (disch := omega) only [mset_ne, mcopy_out, G]
