/-! ===== H2: say ===== -/
theorem q_callNumber (d : Nat) (c y b : Int) (s : Mem) (hc : 0 ≤ c ∧ c < 5) (hy : 0 ≤ y ∧ y < 3) (hb : 0 ≤ b ∧ b ≤ 20) : sem (d + 1) 66 [c, y, b] s = some (63 * c + 21 * y + b, s) := by
  apply CV_eq; apply c_Hall_callNumber
  have e : (c * 3 + y) * 21 + b = 63 * c + 21 * y + b := by omega
  simp (disch := first | assumption | omega) only [rn, wk, al, wr_e, td_e, tm_e, mset_eq, mset_ne, if_pos, if_neg, Int.reduceAdd, Int.reduceSub, Int.reduceMul, Int.reduceNeg, Int.reduceLT, Int.reduceLE, Int.reduceEq, Int.cast_ofNat_Int, eq_self, and_true, true_and, ite_self, true_or, or_true, false_or, or_false, and_false, false_and, not_true_eq_false, not_false_eq_true, if_true, if_false, e_Hall_callNumber_0, e]
/-- a call of this number is among the first -/
def spk (s : Mem) (h m v : Int) : Prop := ∃ k, (0 ≤ k ∧ k < m) ∧ s (h + 9) k = v
theorem lp_isSpoken (d : Nat) {h : Int} (hh : isH h) (s : Mem) (v : Int) (h5 : s h 5 ≤ 8) (Q : Int → Mem → Prop) (q1 : spk s h (s h 5) v → Q 1 s) (q0 : ¬ spk s h (s h 5) v → Q 0 s) : ∀ (n : Nat) (k : Int), 0 ≤ k → k + n = s h 5 → ¬ spk s h k v → EV d o_Hall_isSpoken 2 [] [h, v, k] s Q := by
  intro n
  induction n with
  | zero =>
    intro k h0 hk hs
    rw [e_Hall_isSpoken_2]
    simp (disch := first | assumption | omega) only [rn, wk, al, wr_e, td_e, tm_e, mset_eq, mset_ne, if_pos, if_neg, Int.reduceAdd, Int.reduceSub, Int.reduceMul, Int.reduceNeg, Int.reduceLT, Int.reduceLE, Int.reduceEq, Int.cast_ofNat_Int, eq_self, and_true, true_and, ite_self, true_or, or_true, false_or, or_false, and_false, false_and, not_true_eq_false, not_false_eq_true, if_true, if_false, e_Hall_isSpoken_0, e_Hall_isSpoken_22, e_Hall_isSpoken_28, ah hh]
    exact q0 (by rw [← (by omega : k = s h 5)]; exact hs)
  | succ n ih =>
    intro k h0 hk hs
    rw [e_Hall_isSpoken_2]
    by_cases c : s (h + 9) k = v
    · simp (disch := first | assumption | omega) only [rn, wk, al, wr_e, td_e, tm_e, mset_eq, mset_ne, if_pos, if_neg, Int.reduceAdd, Int.reduceSub, Int.reduceMul, Int.reduceNeg, Int.reduceLT, Int.reduceLE, Int.reduceEq, Int.cast_ofNat_Int, eq_self, and_true, true_and, ite_self, true_or, or_true, false_or, or_false, and_false, false_and, not_true_eq_false, not_false_eq_true, if_true, if_false, e_Hall_isSpoken_0, e_Hall_isSpoken_22, e_Hall_isSpoken_28, ah hh]
      exact q1 ⟨k, by omega, c⟩
    · simp (disch := first | assumption | omega) only [rn, wk, al, wr_e, td_e, tm_e, mset_eq, mset_ne, if_pos, if_neg, Int.reduceAdd, Int.reduceSub, Int.reduceMul, Int.reduceNeg, Int.reduceLT, Int.reduceLE, Int.reduceEq, Int.cast_ofNat_Int, eq_self, and_true, true_and, ite_self, true_or, or_true, false_or, or_false, and_false, false_and, not_true_eq_false, not_false_eq_true, if_true, if_false, e_Hall_isSpoken_0, e_Hall_isSpoken_22, e_Hall_isSpoken_28, ah hh]
      refine ih (k + 1) (by omega) (by omega) ?_
      rintro ⟨j, h1, h2⟩
      by_cases e : j = k
      · subst e; exact c h2
      · exact hs ⟨j, by omega, h2⟩
theorem q_isSpoken (d : Nat) {h : Int} (hh : isH h) (s : Mem) (v : Int) (h5 : 0 ≤ s h 5 ∧ s h 5 ≤ 8) : CV (d + 1) 67 [h, v] s fun r t => t = s ∧ ((r = 1 ∧ spk s h (s h 5) v) ∨ (r = 0 ∧ ¬ spk s h (s h 5) v)) := by
  apply c_Hall_isSpoken
  simp (disch := first | assumption | omega) only [rn, wk, al, wr_e, td_e, tm_e, mset_eq, mset_ne, if_pos, if_neg, Int.reduceAdd, Int.reduceSub, Int.reduceMul, Int.reduceNeg, Int.reduceLT, Int.reduceLE, Int.reduceEq, Int.cast_ofNat_Int, eq_self, and_true, true_and, ite_self, true_or, or_true, false_or, or_false, and_false, false_and, not_true_eq_false, not_false_eq_true, if_true, if_false, e_Hall_isSpoken_0, e_Hall_isSpoken_22, e_Hall_isSpoken_28]
  refine lp_isSpoken d hh s v h5.2 _ (fun h => ⟨rfl, Or.inl ⟨rfl, h⟩⟩) (fun h => ⟨rfl, Or.inr ⟨rfl, h⟩⟩) (s h 5).toNat 0 (by omega) (by omega) ?_
  rintro ⟨j, h1, h2⟩
  omega
/-- the class's addCall: its answer and what it leaves -/
def acP (s : Mem) (h c y b r : Int) (t : Mem) : Prop :=
  (r = 1 ∧ t = s ∧ ¬ ((0 ≤ c ∧ c < s h 4) ∧ (0 ≤ y ∧ y < s (h + 7) c))) ∨
  ((0 ≤ c ∧ c < s h 4) ∧ (0 ≤ y ∧ y < s (h + 7) c) ∧ ((r = 4 ∧ t = s ∧ s h 5 = 8) ∨ (s h 5 < 8 ∧ ((r = 7 ∧ t = s ∧ spk s h (s h 5) (63 * c + 21 * y + b)) ∨ (r = 0 ∧ t = mset (mset s (h + 9) (s h 5) (63 * c + 21 * y + b)) h 5 (s h 5 + 1) ∧ ¬ spk s h (s h 5) (63 * c + 21 * y + b))))))
theorem q_addCall (d : Nat) {h : Int} (hh : isH h) (c y b : Int) (s : Mem) (h4 : s h 4 ≤ 5) (h5 : 0 ≤ s h 5 ∧ s h 5 ≤ 8) (h7 : ∀ c, 0 ≤ c ∧ c < s h 4 → s (h + 7) c ≤ 3) (hb : 0 ≤ b ∧ b ≤ 20) : CV (d + 2) 64 [h, c, y, b] s fun r t => acP s h c y b r t := by
  apply c_Hall_addCall
  by_cases c1 : (0 ≤ c ∧ c < s h 4) ∧ (0 ≤ y ∧ y < s (h + 7) c)
  · have := h7 c c1.1
    by_cases c2 : s h 5 = 8
    · simp (disch := first | assumption | omega) only [rn, wk, al, wr_e, td_e, tm_e, mset_eq, mset_ne, if_pos, if_neg, Int.reduceAdd, Int.reduceSub, Int.reduceMul, Int.reduceNeg, Int.reduceLT, Int.reduceLE, Int.reduceEq, Int.cast_ofNat_Int, eq_self, and_true, true_and, ite_self, true_or, or_true, false_or, or_false, and_false, false_and, not_true_eq_false, not_false_eq_true, if_true, if_false, e_Hall_addCall_0, e_Hall_addCall_11, e_Hall_addCall_22, e_Hall_addCall_42, q_hasCry _ hh]
      exact Or.inr ⟨c1.1, c1.2, Or.inl ⟨rfl, rfl, c2⟩⟩
    · simp (disch := first | assumption | omega) only [rn, wk, al, wr_e, td_e, tm_e, mset_eq, mset_ne, if_pos, if_neg, Int.reduceAdd, Int.reduceSub, Int.reduceMul, Int.reduceNeg, Int.reduceLT, Int.reduceLE, Int.reduceEq, Int.cast_ofNat_Int, eq_self, and_true, true_and, ite_self, true_or, or_true, false_or, or_false, and_false, false_and, not_true_eq_false, not_false_eq_true, if_true, if_false, e_Hall_addCall_0, e_Hall_addCall_11, e_Hall_addCall_22, q_hasCry _ hh, q_callNumber]
      refine EV_call (CV_mono (q_isSpoken _ hh s _ h5) ?_)
      rintro r t ⟨rfl, ⟨rfl, hs⟩ | ⟨rfl, hs⟩⟩
      · simp (disch := first | assumption | omega) only [rn, wk, al, wr_e, td_e, tm_e, mset_eq, mset_ne, if_pos, if_neg, Int.reduceAdd, Int.reduceSub, Int.reduceMul, Int.reduceNeg, Int.reduceLT, Int.reduceLE, Int.reduceEq, Int.cast_ofNat_Int, eq_self, and_true, true_and, ite_self, true_or, or_true, false_or, or_false, and_false, false_and, not_true_eq_false, not_false_eq_true, if_true, if_false, e_Hall_addCall_0, e_Hall_addCall_11, e_Hall_addCall_22, e_Hall_addCall_42, ah hh]
        exact Or.inr ⟨c1.1, c1.2, Or.inr ⟨by omega, Or.inl ⟨rfl, rfl, hs⟩⟩⟩
      · simp (disch := first | assumption | omega) only [rn, wk, al, wr_e, td_e, tm_e, mset_eq, mset_ne, if_pos, if_neg, Int.reduceAdd, Int.reduceSub, Int.reduceMul, Int.reduceNeg, Int.reduceLT, Int.reduceLE, Int.reduceEq, Int.cast_ofNat_Int, eq_self, and_true, true_and, ite_self, true_or, or_true, false_or, or_false, and_false, false_and, not_true_eq_false, not_false_eq_true, if_true, if_false, e_Hall_addCall_0, e_Hall_addCall_11, e_Hall_addCall_22, e_Hall_addCall_42, ah hh]
        exact Or.inr ⟨c1.1, c1.2, Or.inr ⟨by omega, Or.inr ⟨rfl, rfl, hs⟩⟩⟩
  · simp (disch := first | assumption | omega) only [rn, wk, al, wr_e, td_e, tm_e, mset_eq, mset_ne, if_pos, if_neg, Int.reduceAdd, Int.reduceSub, Int.reduceMul, Int.reduceNeg, Int.reduceLT, Int.reduceLE, Int.reduceEq, Int.cast_ofNat_Int, eq_self, and_true, true_and, ite_self, true_or, or_true, false_or, or_false, and_false, false_and, not_true_eq_false, not_false_eq_true, if_true, if_false, e_Hall_addCall_0, e_Hall_addCall_11, e_Hall_addCall_22, e_Hall_addCall_42, q_hasCry _ hh]
    exact Or.inl ⟨rfl, rfl, c1⟩
theorem lp_toldCall (d : Nat) (s : Mem) (c y b : Int) (h4 : s 138 4 ≤ 8) (Q : Int → Mem → Prop) (q1 : ∀ k, (0 ≤ k ∧ k < s 138 4) → s 138 (109 + 3 * k) = c → s 138 (110 + 3 * k) = y → s 138 (111 + 3 * k) = b → Q k s) (q0 : (∀ k, 0 ≤ k ∧ k < s 138 4 → ¬ (s 138 (109 + 3 * k) = c ∧ s 138 (110 + 3 * k) = y ∧ s 138 (111 + 3 * k) = b)) → Q (-1) s) : ∀ (n : Nat) (k : Int), 0 ≤ k → k + n = s 138 4 → (∀ j, 0 ≤ j ∧ j < k → ¬ (s 138 (109 + 3 * j) = c ∧ s 138 (110 + 3 * j) = y ∧ s 138 (111 + 3 * j) = b)) → EV (d + 2) o_R_toldCall 3 [] [137, c, y, b, k] s Q := by
  intro n
  induction n with
  | zero =>
    intro k h0 hk hs
    rw [e_R_toldCall_3]
    simp (disch := first | assumption | omega) only [rn, wk, al, wr_e, td_e, tm_e, mset_eq, mset_ne, if_pos, if_neg, Int.reduceAdd, Int.reduceSub, Int.reduceMul, Int.reduceNeg, Int.reduceLT, Int.reduceLE, Int.reduceEq, Int.cast_ofNat_Int, eq_self, and_true, true_and, ite_self, true_or, or_true, false_or, or_false, and_false, false_and, not_true_eq_false, not_false_eq_true, if_true, if_false, e_R_toldCall_0, e_R_toldCall_50, e_R_toldCall_56]
    refine q0 ?_
    rw [← (by omega : k = s 138 4)]; exact hs
  | succ n ih =>
    intro k h0 hk hs
    have e0 : 109 + 3 * k + 0 = 109 + 3 * k := by omega
    have e1 : 109 + 3 * k + 1 = 110 + 3 * k := by omega
    have e2 : 109 + 3 * k + 2 = 111 + 3 * k := by omega
    have hn : ¬ (s 138 (109 + 3 * k) = c ∧ s 138 (110 + 3 * k) = y ∧ s 138 (111 + 3 * k) = b) → EV (d + 2) o_R_toldCall 3 [] [137, c, y, b, k + 1] s Q := by
      intro hx
      refine ih (k + 1) (by omega) (by omega) ?_
      intro j hj
      by_cases e : j = k
      · subst e; exact hx
      · exact hs j (by omega)
    rw [e_R_toldCall_3]
    by_cases c0 : s 138 (109 + 3 * k) = c
    · by_cases c1 : s 138 (110 + 3 * k) = y
      · by_cases c2 : s 138 (111 + 3 * k) = b
        · simp (disch := first | assumption | omega) only [rn, wk, al, wr_e, td_e, tm_e, mset_eq, mset_ne, if_pos, if_neg, Int.reduceAdd, Int.reduceSub, Int.reduceMul, Int.reduceNeg, Int.reduceLT, Int.reduceLE, Int.reduceEq, Int.cast_ofNat_Int, eq_self, and_true, true_and, ite_self, true_or, or_true, false_or, or_false, and_false, false_and, not_true_eq_false, not_false_eq_true, if_true, if_false, e_R_toldCall_0, e_R_toldCall_50, e_R_toldCall_56, q_callOf, e0, e1, e2]
          exact q1 k (by omega) c0 c1 c2
        · simp (disch := first | assumption | omega) only [rn, wk, al, wr_e, td_e, tm_e, mset_eq, mset_ne, if_pos, if_neg, Int.reduceAdd, Int.reduceSub, Int.reduceMul, Int.reduceNeg, Int.reduceLT, Int.reduceLE, Int.reduceEq, Int.cast_ofNat_Int, eq_self, and_true, true_and, ite_self, true_or, or_true, false_or, or_false, and_false, false_and, not_true_eq_false, not_false_eq_true, if_true, if_false, e_R_toldCall_0, e_R_toldCall_50, e_R_toldCall_56, q_callOf, e0, e1, e2]
          exact hn (by omega)
      · simp (disch := first | assumption | omega) only [rn, wk, al, wr_e, td_e, tm_e, mset_eq, mset_ne, if_pos, if_neg, Int.reduceAdd, Int.reduceSub, Int.reduceMul, Int.reduceNeg, Int.reduceLT, Int.reduceLE, Int.reduceEq, Int.cast_ofNat_Int, eq_self, and_true, true_and, ite_self, true_or, or_true, false_or, or_false, and_false, false_and, not_true_eq_false, not_false_eq_true, if_true, if_false, e_R_toldCall_0, e_R_toldCall_50, e_R_toldCall_56, q_callOf, e0, e1, e2]
        exact hn (by omega)
    · simp (disch := first | assumption | omega) only [rn, wk, al, wr_e, td_e, tm_e, mset_eq, mset_ne, if_pos, if_neg, Int.reduceAdd, Int.reduceSub, Int.reduceMul, Int.reduceNeg, Int.reduceLT, Int.reduceLE, Int.reduceEq, Int.cast_ofNat_Int, eq_self, and_true, true_and, ite_self, true_or, or_true, false_or, or_false, and_false, false_and, not_true_eq_false, not_false_eq_true, if_true, if_false, e_R_toldCall_0, e_R_toldCall_50, e_R_toldCall_56, q_callOf, e0, e1, e2]
      exact hn (by omega)
/-- the reference knows such a call -/
def spR (s : Mem) (c y b : Int) : Prop := ∃ k, (0 ≤ k ∧ k < s 138 4) ∧ s 138 (109 + 3 * k) = c ∧ s 138 (110 + 3 * k) = y ∧ s 138 (111 + 3 * k) = b
theorem q_toldCall (d : Nat) (s : Mem) (c y b : Int) (h4 : 0 ≤ s 138 4 ∧ s 138 4 ≤ 8) : CV (d + 3) 287 [137, c, y, b] s fun r t => t = s ∧ ((0 ≤ r ∧ spR s c y b) ∨ (r = -1 ∧ ¬ spR s c y b)) := by
  apply c_R_toldCall
  simp (disch := first | assumption | omega) only [rn, wk, al, wr_e, td_e, tm_e, mset_eq, mset_ne, if_pos, if_neg, Int.reduceAdd, Int.reduceSub, Int.reduceMul, Int.reduceNeg, Int.reduceLT, Int.reduceLE, Int.reduceEq, Int.cast_ofNat_Int, eq_self, and_true, true_and, ite_self, true_or, or_true, false_or, or_false, and_false, false_and, not_true_eq_false, not_false_eq_true, if_true, if_false, e_R_toldCall_0, e_R_toldCall_50, e_R_toldCall_56]
  refine lp_toldCall d s c y b h4.2 _ ?_ ?_ (s 138 4).toNat 0 (by omega) (by omega) ?_
  · intro k h1 h2 h3 h4
    exact ⟨rfl, Or.inl ⟨h1.1, k, h1, h2, h3, h4⟩⟩
  · intro h
    exact ⟨rfl, Or.inr ⟨rfl, fun ⟨k, h1, h2⟩ => h k h1 h2⟩⟩
  · intro j hj; omega
/-- the reference's says -/
def saT (s : Mem) (c y b : Int) : Mem := mset (mset (mset (mset s 138 (109 + 3 * s 138 4) c) 138 (109 + 3 * s 138 4 + 1) y) 138 (109 + 3 * s 138 4 + 2) b) 138 4 (s 138 4 + 1)
def saP (s : Mem) (c y b r : Int) (t : Mem) : Prop :=
  (r = 1 ∧ t = s ∧ ¬ ((0 ≤ c ∧ c < s 138 3) ∧ (0 ≤ y ∧ y < s 138 (55 + 11 * c)))) ∨
  ((0 ≤ c ∧ c < s 138 3) ∧ (0 ≤ y ∧ y < s 138 (55 + 11 * c)) ∧ ((r = 4 ∧ t = s ∧ s 138 4 = 8) ∨ (s 138 4 < 8 ∧ ((r = 7 ∧ t = s ∧ spR s c y b) ∨ (r = 0 ∧ t = saT s c y b ∧ ¬ spR s c y b)))))
theorem q_says (d : Nat) (c y b : Int) (s : Mem) (h3 : s 138 3 ≤ 5) (h4 : 0 ≤ s 138 4 ∧ s 138 4 ≤ 8) : CV (d + 4) 286 [137, c, y, b] s fun r t => saP s c y b r t := by
  apply c_R_says
  by_cases c1 : (0 ≤ c ∧ c < s 138 3) ∧ (0 ≤ y ∧ y < s 138 (55 + 11 * c))
  · by_cases c2 : s 138 4 = 8
    · simp (disch := first | assumption | omega) only [rn, wk, al, wr_e, td_e, tm_e, mset_eq, mset_ne, if_pos, if_neg, Int.reduceAdd, Int.reduceSub, Int.reduceMul, Int.reduceNeg, Int.reduceLT, Int.reduceLE, Int.reduceEq, Int.cast_ofNat_Int, eq_self, and_true, true_and, ite_self, true_or, or_true, false_or, or_false, and_false, false_and, not_true_eq_false, not_false_eq_true, if_true, if_false, e_R_says_0, e_R_says_11, e_R_says_24, e_R_says_38, q_isCry]
      exact Or.inr ⟨c1.1, c1.2, Or.inl ⟨rfl, rfl, c2⟩⟩
    · simp (disch := first | assumption | omega) only [rn, wk, al, wr_e, td_e, tm_e, mset_eq, mset_ne, if_pos, if_neg, Int.reduceAdd, Int.reduceSub, Int.reduceMul, Int.reduceNeg, Int.reduceLT, Int.reduceLE, Int.reduceEq, Int.cast_ofNat_Int, eq_self, and_true, true_and, ite_self, true_or, or_true, false_or, or_false, and_false, false_and, not_true_eq_false, not_false_eq_true, if_true, if_false, e_R_says_0, e_R_says_11, e_R_says_24, q_isCry]
      refine EV_call (CV_mono (q_toldCall _ s c y b h4) ?_)
      rintro r t ⟨rfl, ⟨h0, hs⟩ | ⟨rfl, hs⟩⟩
      · simp (disch := first | assumption | omega) only [rn, wk, al, wr_e, td_e, tm_e, mset_eq, mset_ne, if_pos, if_neg, Int.reduceAdd, Int.reduceSub, Int.reduceMul, Int.reduceNeg, Int.reduceLT, Int.reduceLE, Int.reduceEq, Int.cast_ofNat_Int, eq_self, and_true, true_and, ite_self, true_or, or_true, false_or, or_false, and_false, false_and, not_true_eq_false, not_false_eq_true, if_true, if_false, e_R_says_0, e_R_says_11, e_R_says_24, e_R_says_38]
        exact Or.inr ⟨c1.1, c1.2, Or.inr ⟨by omega, Or.inl ⟨rfl, rfl, hs⟩⟩⟩
      · simp (disch := first | assumption | omega) only [rn, wk, al, wr_e, td_e, tm_e, mset_eq, mset_ne, if_pos, if_neg, Int.reduceAdd, Int.reduceSub, Int.reduceMul, Int.reduceNeg, Int.reduceLT, Int.reduceLE, Int.reduceEq, Int.cast_ofNat_Int, eq_self, and_true, true_and, ite_self, true_or, or_true, false_or, or_false, and_false, false_and, not_true_eq_false, not_false_eq_true, if_true, if_false, e_R_says_0, e_R_says_11, e_R_says_24, e_R_says_38, q_callRow]
        exact Or.inr ⟨c1.1, c1.2, Or.inr ⟨by omega, Or.inr ⟨rfl, rfl, hs⟩⟩⟩
  · simp (disch := first | assumption | omega) only [rn, wk, al, wr_e, td_e, tm_e, mset_eq, mset_ne, if_pos, if_neg, Int.reduceAdd, Int.reduceSub, Int.reduceMul, Int.reduceNeg, Int.reduceLT, Int.reduceLE, Int.reduceEq, Int.cast_ofNat_Int, eq_self, and_true, true_and, ite_self, true_or, or_true, false_or, or_false, and_false, false_and, not_true_eq_false, not_false_eq_true, if_true, if_false, e_R_says_0, e_R_says_11, e_R_says_24, e_R_says_38, q_isCry]
    exact Or.inl ⟨rfl, rfl, c1⟩
