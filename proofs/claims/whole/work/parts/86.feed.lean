/-! ===== H2: feed ===== -/
def bt (v j : Int) : Int := w8 (w8 (ishr_ v (24 - 8 * j)))
theorem bt_in (v j : Int) : -128 ≤ bt v j ∧ bt v j < 128 := by unfold bt w8; omega
theorem st_append (d : Nat) (F : Int → Int) (n v : Int) (s : Mem) (hn : 0 ≤ n ∧ n ≤ 896) (hF : ∀ j, 0 ≤ j → j < 4 → F (n + j) = bt v j) (h1 : s 7 1 = n) (h2 : ∀ i, 0 ≤ i → i < n → s 8 i = F i) : CV (d + 1) 19 [7, v] s fun r t => t 7 1 = n + 4 ∧ (∀ i, 0 ≤ i → i < n + 4 → t 8 i = F i) ∧ ∀ c i, c ≠ 8 → ¬ (c = 7 ∧ i = 1) → t c i = s c i := by
  apply c_Tokens_append
  subst h1
  simp (disch := first | assumption | omega) only [rn, wk, al, wr_e, td_e, tm_e, mset_eq, mset_ne, if_pos, if_neg, Int.reduceAdd, Int.reduceSub, Int.reduceMul, Int.reduceNeg, Int.reduceLT, Int.reduceLE, Int.reduceEq, Int.cast_ofNat_Int, eq_self, and_true, true_and, ite_self, true_or, or_true, false_or, or_false, and_false, false_and, not_true_eq_false, not_false_eq_true, if_true, if_false, e_Tokens_append_0, e_Tokens_append_46]
  rw [e_Tokens_append_3]
  simp (disch := first | assumption | omega) only [rn, wk, al, wr_e, td_e, tm_e, mset_eq, mset_ne, if_pos, if_neg, Int.reduceAdd, Int.reduceSub, Int.reduceMul, Int.reduceNeg, Int.reduceLT, Int.reduceLE, Int.reduceEq, Int.cast_ofNat_Int, eq_self, and_true, true_and, ite_self, true_or, or_true, false_or, or_false, and_false, false_and, not_true_eq_false, not_false_eq_true, if_true, if_false]
  rw [e_Tokens_append_3]
  simp (disch := first | assumption | omega) only [rn, wk, al, wr_e, td_e, tm_e, mset_eq, mset_ne, if_pos, if_neg, Int.reduceAdd, Int.reduceSub, Int.reduceMul, Int.reduceNeg, Int.reduceLT, Int.reduceLE, Int.reduceEq, Int.cast_ofNat_Int, eq_self, and_true, true_and, ite_self, true_or, or_true, false_or, or_false, and_false, false_and, not_true_eq_false, not_false_eq_true, if_true, if_false]
  rw [e_Tokens_append_3]
  simp (disch := first | assumption | omega) only [rn, wk, al, wr_e, td_e, tm_e, mset_eq, mset_ne, if_pos, if_neg, Int.reduceAdd, Int.reduceSub, Int.reduceMul, Int.reduceNeg, Int.reduceLT, Int.reduceLE, Int.reduceEq, Int.cast_ofNat_Int, eq_self, and_true, true_and, ite_self, true_or, or_true, false_or, or_false, and_false, false_and, not_true_eq_false, not_false_eq_true, if_true, if_false]
  rw [e_Tokens_append_3]
  simp (disch := first | assumption | omega) only [rn, wk, al, wr_e, td_e, tm_e, mset_eq, mset_ne, if_pos, if_neg, Int.reduceAdd, Int.reduceSub, Int.reduceMul, Int.reduceNeg, Int.reduceLT, Int.reduceLE, Int.reduceEq, Int.cast_ofNat_Int, eq_self, and_true, true_and, ite_self, true_or, or_true, false_or, or_false, and_false, false_and, not_true_eq_false, not_false_eq_true, if_true, if_false]
  rw [e_Tokens_append_3]
  simp (disch := first | assumption | omega) only [rn, wk, al, wr_e, td_e, tm_e, mset_eq, mset_ne, if_pos, if_neg, Int.reduceAdd, Int.reduceSub, Int.reduceMul, Int.reduceNeg, Int.reduceLT, Int.reduceLE, Int.reduceEq, Int.cast_ofNat_Int, eq_self, and_true, true_and, ite_self, true_or, or_true, false_or, or_false, and_false, false_and, not_true_eq_false, not_false_eq_true, if_true, if_false, e_Tokens_append_0, e_Tokens_append_46]
  have f0 := hF 0 (by omega) (by omega)
  have f1 := hF 1 (by omega) (by omega)
  have f2 := hF 2 (by omega) (by omega)
  have f3 := hF 3 (by omega) (by omega)
  unfold bt at f0 f1 f2 f3
  simp only [Int.reduceMul, Int.reduceSub, Int.add_zero, Int.reduceAdd] at f0 f1 f2 f3
  refine ⟨by omega, ?_, ?_⟩
  · intro i a b
    by_cases e0 : i = s 7 1
    · subst e0; simp (disch := omega) only [mset_eq, mset_ne]; exact f0.symm
    · by_cases e1 : i = s 7 1 + 1
      · subst e1; simp (disch := omega) only [mset_eq, mset_ne]; exact f1.symm
      · by_cases e2 : i = s 7 1 + 2
        · subst e2; simp (disch := omega) only [mset_eq, mset_ne]; exact f2.symm
        · by_cases e3 : i = s 7 1 + 3
          · subst e3; simp (disch := omega) only [mset_eq, mset_ne]; exact f3.symm
          · simp (disch := omega) only [mset_ne]; exact h2 i a (by omega)
  · intro c i a b
    simp (disch := omega) only [mset_ne]
theorem st_four (d : Nat) (F : Int → Int) (n v : Int) (s : Mem) (hn : 0 ≤ n ∧ n ≤ 896) (hF : ∀ j, 0 ≤ j → j < 4 → F (n + j) = bt v j) (h1 : s 137 10 = n) (h2 : ∀ i, 0 ≤ i → i < n → s 143 i = F i) : CV (d + 1) 225 [137, v] s fun r t => t 137 10 = n + 4 ∧ (∀ i, 0 ≤ i → i < n + 4 → t 143 i = F i) ∧ ∀ c i, c ≠ 143 → ¬ (c = 137 ∧ i = 10) → t c i = s c i := by
  apply c_R_four
  subst h1
  simp (disch := first | assumption | omega) only [rn, wk, al, wr_e, td_e, tm_e, mset_eq, mset_ne, if_pos, if_neg, Int.reduceAdd, Int.reduceSub, Int.reduceMul, Int.reduceNeg, Int.reduceLT, Int.reduceLE, Int.reduceEq, Int.cast_ofNat_Int, eq_self, and_true, true_and, ite_self, true_or, or_true, false_or, or_false, and_false, false_and, not_true_eq_false, not_false_eq_true, if_true, if_false, e_R_four_0, e_R_four_36]
  rw [e_R_four_3]
  simp (disch := first | assumption | omega) only [rn, wk, al, wr_e, td_e, tm_e, mset_eq, mset_ne, if_pos, if_neg, Int.reduceAdd, Int.reduceSub, Int.reduceMul, Int.reduceNeg, Int.reduceLT, Int.reduceLE, Int.reduceEq, Int.cast_ofNat_Int, eq_self, and_true, true_and, ite_self, true_or, or_true, false_or, or_false, and_false, false_and, not_true_eq_false, not_false_eq_true, if_true, if_false]
  rw [e_R_four_3]
  simp (disch := first | assumption | omega) only [rn, wk, al, wr_e, td_e, tm_e, mset_eq, mset_ne, if_pos, if_neg, Int.reduceAdd, Int.reduceSub, Int.reduceMul, Int.reduceNeg, Int.reduceLT, Int.reduceLE, Int.reduceEq, Int.cast_ofNat_Int, eq_self, and_true, true_and, ite_self, true_or, or_true, false_or, or_false, and_false, false_and, not_true_eq_false, not_false_eq_true, if_true, if_false]
  rw [e_R_four_3]
  simp (disch := first | assumption | omega) only [rn, wk, al, wr_e, td_e, tm_e, mset_eq, mset_ne, if_pos, if_neg, Int.reduceAdd, Int.reduceSub, Int.reduceMul, Int.reduceNeg, Int.reduceLT, Int.reduceLE, Int.reduceEq, Int.cast_ofNat_Int, eq_self, and_true, true_and, ite_self, true_or, or_true, false_or, or_false, and_false, false_and, not_true_eq_false, not_false_eq_true, if_true, if_false]
  rw [e_R_four_3]
  simp (disch := first | assumption | omega) only [rn, wk, al, wr_e, td_e, tm_e, mset_eq, mset_ne, if_pos, if_neg, Int.reduceAdd, Int.reduceSub, Int.reduceMul, Int.reduceNeg, Int.reduceLT, Int.reduceLE, Int.reduceEq, Int.cast_ofNat_Int, eq_self, and_true, true_and, ite_self, true_or, or_true, false_or, or_false, and_false, false_and, not_true_eq_false, not_false_eq_true, if_true, if_false]
  rw [e_R_four_3]
  simp (disch := first | assumption | omega) only [rn, wk, al, wr_e, td_e, tm_e, mset_eq, mset_ne, if_pos, if_neg, Int.reduceAdd, Int.reduceSub, Int.reduceMul, Int.reduceNeg, Int.reduceLT, Int.reduceLE, Int.reduceEq, Int.cast_ofNat_Int, eq_self, and_true, true_and, ite_self, true_or, or_true, false_or, or_false, and_false, false_and, not_true_eq_false, not_false_eq_true, if_true, if_false, e_R_four_0, e_R_four_36]
  have f0 := hF 0 (by omega) (by omega)
  have f1 := hF 1 (by omega) (by omega)
  have f2 := hF 2 (by omega) (by omega)
  have f3 := hF 3 (by omega) (by omega)
  unfold bt at f0 f1 f2 f3
  simp only [Int.reduceMul, Int.reduceSub, Int.add_zero, Int.reduceAdd] at f0 f1 f2 f3
  refine ⟨by omega, ?_, ?_⟩
  · intro i a b
    by_cases e0 : i = s 137 10
    · subst e0; simp (disch := omega) only [mset_eq, mset_ne]; exact f0.symm
    · by_cases e1 : i = s 137 10 + 1
      · subst e1; simp (disch := omega) only [mset_eq, mset_ne]; exact f1.symm
      · by_cases e2 : i = s 137 10 + 2
        · subst e2; simp (disch := omega) only [mset_eq, mset_ne]; exact f2.symm
        · by_cases e3 : i = s 137 10 + 3
          · subst e3; simp (disch := omega) only [mset_eq, mset_ne]; exact f3.symm
          · simp (disch := omega) only [mset_ne]; exact h2 i a (by omega)
  · intro c i a b
    simp (disch := omega) only [mset_ne]
/-- the tape behind feed -/
def fdF (s : Mem) (a b c e f : Int) (i : Int) : Int := if i < s 7 1 then s 8 i else if i < s 7 1 + 4 then bt a (i - s 7 1) else if i < s 7 1 + 8 then bt b (i - s 7 1 - 4) else if i < s 7 1 + 12 then bt c (i - s 7 1 - 8) else if i < s 7 1 + 16 then bt e (i - s 7 1 - 12) else bt f (i - s 7 1 - 16)
theorem ak_feed (d : Nat) (a b c e f : Int) : Ak (d + 30) 18 224 [a, b, c, e, f] := by
  apply ak_of; intro s hi
  obtain ⟨h0, h1, h2⟩ := hi.2.2.2.1
  by_cases c1 : s 7 1 + 20 ≤ 900
  · have F0 : ∀ i, 0 ≤ i → i < s 7 1 → fdF s a b c e f i = s 8 i := by
      intro i x1 x2; unfold fdF; simp (disch := omega) only [if_pos]
    have F1 : ∀ j, 0 ≤ j → j < 4 → fdF s a b c e f (s 7 1 + j) = bt a j := by
      intro i x1 x2; unfold fdF; simp (disch := omega) only [if_pos, if_neg]; congr 1; omega
    have F2 : ∀ j, 0 ≤ j → j < 4 → fdF s a b c e f (s 7 1 + 4 + j) = bt b j := by
      intro i x1 x2; unfold fdF; simp (disch := omega) only [if_pos, if_neg]; congr 1; omega
    have F3 : ∀ j, 0 ≤ j → j < 4 → fdF s a b c e f (s 7 1 + 4 + 4 + j) = bt c j := by
      intro i x1 x2; unfold fdF; simp (disch := omega) only [if_pos, if_neg]; congr 1; omega
    have F4 : ∀ j, 0 ≤ j → j < 4 → fdF s a b c e f (s 7 1 + 4 + 4 + 4 + j) = bt e j := by
      intro i x1 x2; unfold fdF; simp (disch := omega) only [if_pos, if_neg]; congr 1; omega
    have F5 : ∀ j, 0 ≤ j → j < 4 → fdF s a b c e f (s 7 1 + 4 + 4 + 4 + 4 + j) = bt f j := by
      intro i x1 x2; unfold fdF; simp (disch := omega) only [if_pos, if_neg]; congr 1; omega
    have FB : ∀ i, 0 ≤ i → i < s 7 1 + 20 → -128 ≤ fdF s a b c e f i ∧ fdF s a b c e f i < 128 := by
      intro i x1 x2; unfold fdF
      by_cases y : i < s 7 1
      · rw [if_pos y]; exact (h2 i ⟨x1, y⟩).2
      · rw [if_neg y]; (repeat' split) <;> exact bt_in _ _
    apply c_M_feed
    simp (disch := first | assumption | omega) only [rn, wk, al, wr_e, td_e, tm_e, mset_eq, mset_ne, if_pos, if_neg, Int.reduceAdd, Int.reduceSub, Int.reduceMul, Int.reduceNeg, Int.reduceLT, Int.reduceLE, Int.reduceEq, Int.cast_ofNat_Int, eq_self, and_true, true_and, ite_self, true_or, or_true, false_or, or_false, and_false, false_and, not_true_eq_false, not_false_eq_true, if_true, if_false, e_M_feed_0]
    rw [e_M_feed_18]
    simp (disch := first | assumption | omega) only [rn, wk, al, wr_e, td_e, tm_e, mset_eq, mset_ne, if_pos, if_neg, Int.reduceAdd, Int.reduceSub, Int.reduceMul, Int.reduceNeg, Int.reduceLT, Int.reduceLE, Int.reduceEq, Int.cast_ofNat_Int, eq_self, and_true, true_and, ite_self, true_or, or_true, false_or, or_false, and_false, false_and, not_true_eq_false, not_false_eq_true, if_true, if_false]
    refine EV_call (CV_mono (st_append _ (fdF s a b c e f) (s 7 1) a s (by omega) F1 rfl (fun i x y => (F0 i x y).symm)) ?_)
    rintro r1 t1 ⟨p1, p2, p3⟩
    refine EV_call (CV_mono (st_append _ (fdF s a b c e f) (s 7 1 + 4) b t1 (by omega) F2 p1 p2) ?_)
    rintro r2 t2 ⟨q1, q2, q3⟩
    refine EV_call (CV_mono (st_append _ (fdF s a b c e f) (s 7 1 + 4 + 4) c t2 (by omega) F3 q1 q2) ?_)
    rintro r3 t3 ⟨u1, u2, u3⟩
    refine EV_call (CV_mono (st_append _ (fdF s a b c e f) (s 7 1 + 4 + 4 + 4) e t3 (by omega) F4 u1 u2) ?_)
    rintro r4 t4 ⟨v1, v2, v3⟩
    refine EV_call (CV_mono (st_append _ (fdF s a b c e f) (s 7 1 + 4 + 4 + 4 + 4) f t4 (by omega) F5 v1 v2) ?_)
    rintro r5 t5 ⟨w1, w2, w3⟩
    simp (disch := first | assumption | omega) only [rn, wk, al, wr_e, td_e, tm_e, mset_eq, mset_ne, if_pos, if_neg, Int.reduceAdd, Int.reduceSub, Int.reduceMul, Int.reduceNeg, Int.reduceLT, Int.reduceLE, Int.reduceEq, Int.cast_ofNat_Int, eq_self, and_true, true_and, ite_self, true_or, or_true, false_or, or_false, and_false, false_and, not_true_eq_false, not_false_eq_true, if_true, if_false, w1]
    have fr : ∀ c i, c ≠ 8 → ¬ (c = 7 ∧ i = 1) → t5 c i = s c i := fun c i x y => by
      rw [w3 c i x y, v3 c i x y, u3 c i x y, q3 c i x y, p3 c i x y]
    clear p1 p2 p3 q1 q2 q3 u1 u2 u3 v1 v2 v3 w3
    have g1 : t5 137 10 = s 7 1 := by rw [fr _ _ (by omega) (by omega), h0]
    apply c_R_feed
    simp (disch := first | assumption | omega) only [rn, wk, al, wr_e, td_e, tm_e, mset_eq, mset_ne, if_pos, if_neg, Int.reduceAdd, Int.reduceSub, Int.reduceMul, Int.reduceNeg, Int.reduceLT, Int.reduceLE, Int.reduceEq, Int.cast_ofNat_Int, eq_self, and_true, true_and, ite_self, true_or, or_true, false_or, or_false, and_false, false_and, not_true_eq_false, not_false_eq_true, if_true, if_false, e_R_feed_0]
    rw [e_R_feed_15]
    simp (disch := first | assumption | omega) only [rn, wk, al, wr_e, td_e, tm_e, mset_eq, mset_ne, if_pos, if_neg, Int.reduceAdd, Int.reduceSub, Int.reduceMul, Int.reduceNeg, Int.reduceLT, Int.reduceLE, Int.reduceEq, Int.cast_ofNat_Int, eq_self, and_true, true_and, ite_self, true_or, or_true, false_or, or_false, and_false, false_and, not_true_eq_false, not_false_eq_true, if_true, if_false]
    refine EV_call (CV_mono (st_four _ (fdF s a b c e f) (s 7 1) a t5 (by omega) F1 g1 (fun i x y => by rw [fr _ _ (by omega) (by omega), (h2 i ⟨x, y⟩).1]; exact (F0 i x y).symm)) ?_)
    rintro r1 t1 ⟨p1, p2, p3⟩
    refine EV_call (CV_mono (st_four _ (fdF s a b c e f) (s 7 1 + 4) b t1 (by omega) F2 p1 p2) ?_)
    rintro r2 t2 ⟨q1, q2, q3⟩
    refine EV_call (CV_mono (st_four _ (fdF s a b c e f) (s 7 1 + 4 + 4) c t2 (by omega) F3 q1 q2) ?_)
    rintro r3 t3 ⟨u1, u2, u3⟩
    refine EV_call (CV_mono (st_four _ (fdF s a b c e f) (s 7 1 + 4 + 4 + 4) e t3 (by omega) F4 u1 u2) ?_)
    rintro r4 t4 ⟨v1, v2, v3⟩
    refine EV_call (CV_mono (st_four _ (fdF s a b c e f) (s 7 1 + 4 + 4 + 4 + 4) f t4 (by omega) F5 v1 v2) ?_)
    rintro r6 t6 ⟨z1, z2, z3⟩
    simp (disch := first | assumption | omega) only [rn, wk, al, wr_e, td_e, tm_e, mset_eq, mset_ne, if_pos, if_neg, Int.reduceAdd, Int.reduceSub, Int.reduceMul, Int.reduceNeg, Int.reduceLT, Int.reduceLE, Int.reduceEq, Int.cast_ofNat_Int, eq_self, and_true, true_and, ite_self, true_or, or_true, false_or, or_false, and_false, false_and, not_true_eq_false, not_false_eq_true, if_true, if_false, z1]
    have fr2 : ∀ c i, c ≠ 143 → ¬ (c = 137 ∧ i = 10) → t6 c i = t5 c i := fun c i x y => by
      rw [z3 c i x y, v3 c i x y, u3 c i x y, q3 c i x y, p3 c i x y]
    have G : ∀ c i, c ≠ 8 → ¬ (c = 7 ∧ i = 1) → c ≠ 143 → ¬ (c = 137 ∧ i = 10) → t6 c i = s c i := fun c i a b c' d' => by
      rw [fr2 c i c' d', fr c i a b]
    clear p1 p2 p3 q1 q2 q3 u1 u2 u3 v1 v2 v3 z3
    refine ⟨by rw [G _ _ (by omega) (by omega) (by omega) (by omega), G _ _ (by omega) (by omega) (by omega) (by omega)]; exact hi.1, keep_FA hi ?_ ?_ ?_ ?_ ?_, keep_TR hi ?_, ?_, keep_HR hi ?_ ?_ ?_, keep_MK hi ?_ ?_ ?_ ?_⟩
    rotate_left 6
    · have y1 : t6 7 1 = s 7 1 + 4 + 4 + 4 + 4 + 4 := by rw [fr2 _ _ (by omega) (by omega), w1]
      have y2 : ∀ i, t6 8 i = t5 8 i := fun i => fr2 _ _ (by omega) (by omega)
      unfold TP
      rw [y1, z1]
      refine ⟨rfl, by omega, ?_⟩
      intro i hi'
      rw [y2, z2 i (by omega) (by omega), w2 i (by omega) (by omega)]
      exact ⟨rfl, FB i (by omega) (by omega)⟩
    all_goals
      intros
      exact G _ _ (by omega) (by omega) (by omega) (by omega)
  · apply c_M_feed
    simp (disch := first | assumption | omega) only [rn, wk, al, wr_e, td_e, tm_e, mset_eq, mset_ne, if_pos, if_neg, Int.reduceAdd, Int.reduceSub, Int.reduceMul, Int.reduceNeg, Int.reduceLT, Int.reduceLE, Int.reduceEq, Int.cast_ofNat_Int, eq_self, and_true, true_and, ite_self, true_or, or_true, false_or, or_false, and_false, false_and, not_true_eq_false, not_false_eq_true, if_true, if_false, e_M_feed_0, e_M_feed_18]
    apply c_R_feed
    simp (disch := first | assumption | omega) only [rn, wk, al, wr_e, td_e, tm_e, mset_eq, mset_ne, if_pos, if_neg, Int.reduceAdd, Int.reduceSub, Int.reduceMul, Int.reduceNeg, Int.reduceLT, Int.reduceLE, Int.reduceEq, Int.cast_ofNat_Int, eq_self, and_true, true_and, ite_self, true_or, or_true, false_or, or_false, and_false, false_and, not_true_eq_false, not_false_eq_true, if_true, if_false, e_R_feed_0, e_R_feed_15]
    exact hi
