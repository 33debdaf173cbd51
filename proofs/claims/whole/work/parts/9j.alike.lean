/-! ===== H2: alike ===== -/
theorem q_listenAt (d : Nat) (A s : Mem) (hA : A = win s 37) (hv : VB A) (q p : Int) (hq : vQ A q) (hp : 0 ≤ p ∧ p < A 0 1) : CV (d + 3) 173 [31, 37, q, p, dP A (q / 3) p] s fun _ u => (∀ c i, ¬ (c = 32 ∧ i = 7 * q + p) → ¬ (c = 33 ∧ i = 7 * q + p) → u c i = s c i) ∧ u 32 (7 * q + p) = sh A q p ∧ (sh A q p ≠ 0 → u 33 (7 * q + p) = bn A q p) := by
  have h1 := hv.1
  unfold VC at h1
  have hd := (dP_ok hv (vQ_c hq) hp).2
  have a0 := aP_ok hv hq hp (i := 0) (by omega)
  have a1 := aP_ok hv hq hp (i := 1) (by omega)
  have a2 := aP_ok hv hq hp (i := 2) (by omega)
  have n0 := nb_ok hv hq (i := 0) (by omega)
  have n1 := nb_ok hv hq (i := 1) (by omega)
  have n2 := nb_ok hv hq (i := 2) (by omega)
  have hq0 := hq.1
  have hq1 := hq.2.1
  have g8 : ∀ i, s 45 i = A 8 i := fun i => by rw [hA]; rfl
  have e7 : q * 7 = 7 * q := by omega
  apply c_Parting_listenAt
  by_cases c : dP A (q / 3) p < 10000000
  · have f0 : aP A q p 0 = max 0 (A 8 (3 * q + 0) - dP A (q / 3) p % 1000) := by unfold aP; rw [if_pos c]
    have f1 : aP A q p 1 = max 0 (A 8 (3 * q + 1) - dP A (q / 3) p % 1000) := by unfold aP; rw [if_pos c]
    have f2 : aP A q p 2 = max 0 (A 8 (3 * q + 2) - dP A (q / 3) p % 1000) := by unfold aP; rw [if_pos c]
    have hd0 : 0 ≤ dP A (q / 3) p := by rcases hd with h | ⟨x, y, h⟩ <;> omega
    have hb : bP A q p = dP A (q / 3) p / 1000 := rfl
    have m0 := q_amount (d + 0) isH37 q 0 (dP A (q / 3) p % 1000) s (by omega) (by omega) (by simp only [Int.reduceAdd]; rw [g8]; exact n0) (by omega)
    have m1 := q_amount (d + 0) isH37 q 1 (dP A (q / 3) p % 1000) s (by omega) (by omega) (by simp only [Int.reduceAdd]; rw [g8]; exact n1) (by omega)
    have m2 := q_amount (d + 0) isH37 q 2 (dP A (q / 3) p % 1000) s (by omega) (by omega) (by simp only [Int.reduceAdd]; rw [g8]; exact n2) (by omega)
    simp only [Int.reduceAdd, g8] at m0 m1 m2
    rw [← f0] at m0
    rw [← f1] at m1
    rw [← f2] at m2
    have ql := q_leftAligned (d + 1) (aP A q p 0) (aP A q p 1) (aP A q p 2) 
    generalize hD : dP A (q / 3) p = D at *
    have fin : ∀ B, (sh A q p ≠ 0 → B = bn A q p) → EV (d + 2) o_Parting_listenAt 79 [] [31, 37, q, p, D, 7 * q + p, (aP A q p 0 * 100 + aP A q p 1) * 100 + aP A q p 2, B, 3, aP A q p 2] s (fun _ u => (∀ c i, ¬ (c = 32 ∧ i = 7 * q + p) → ¬ (c = 33 ∧ i = 7 * q + p) → u c i = s c i) ∧ u 32 (7 * q + p) = sh A q p ∧ (sh A q p ≠ 0 → u 33 (7 * q + p) = bn A q p)) := by
      intro B hB
      have ql := ql (mset s 33 (7 * q + p) B) a0 a1 a2
      rw [e_Parting_listenAt_79]
      simp (disch := first | assumption | omega) only [rn, wk, al, Int.reduceAdd, if_pos, ql]
      refine ⟨?_, ?_, ?_⟩
      · intro c i x y
        rw [mset_ne x, mset_ne y]
      · rw [mset_eq rfl rfl]; rfl
      · intro h
        rw [mset_ne (by omega), mset_eq rfl rfl]; exact hB h
    simp (disch := first | assumption | omega) only [rn, wk, al, wr_e, td_e, tm_e, mset_eq, mset_ne, if_pos, if_neg, Int.reduceAdd, Int.reduceSub, Int.reduceMul, Int.reduceNeg, Int.reduceLT, Int.reduceLE, Int.reduceEq, Int.cast_ofNat_Int, eq_self, and_true, true_and, ite_self, true_or, or_true, false_or, or_false, and_false, false_and, not_true_eq_false, not_false_eq_true, if_true, if_false, e_Parting_listenAt_0, e_Parting_listenAt_63, e7, q_beatsOf]
    rw [e_Parting_listenAt_21]
    simp (disch := first | assumption | omega) only [rn, wk, al, wr_e, td_e, tm_e, mset_eq, mset_ne, if_pos, if_neg, Int.reduceAdd, Int.reduceSub, Int.reduceMul, Int.reduceNeg, Int.reduceLT, Int.reduceLE, Int.reduceEq, Int.cast_ofNat_Int, eq_self, and_true, true_and, ite_self, true_or, or_true, false_or, or_false, and_false, false_and, not_true_eq_false, not_false_eq_true, if_true, if_false, e_Parting_listenAt_0, e_Parting_listenAt_63, q_lossOf, m0, q_beatsOf, Int.zero_mul, Int.zero_add, Int.add_zero]
    rw [e_Parting_listenAt_21]
    by_cases c0 : aP A q p 0 = 0
    · simp (disch := first | assumption | omega) only [rn, wk, al, wr_e, td_e, tm_e, mset_eq, mset_ne, if_pos, if_neg, Int.reduceAdd, Int.reduceSub, Int.reduceMul, Int.reduceNeg, Int.reduceLT, Int.reduceLE, Int.reduceEq, Int.cast_ofNat_Int, eq_self, and_true, true_and, ite_self, true_or, or_true, false_or, or_false, and_false, false_and, not_true_eq_false, not_false_eq_true, if_true, if_false, e_Parting_listenAt_0, e_Parting_listenAt_63, q_lossOf, m1, q_beatsOf]
      rw [e_Parting_listenAt_21]
      by_cases c1 : aP A q p 0 * 100 + aP A q p 1 = 0
      · simp (disch := first | assumption | omega) only [rn, wk, al, wr_e, td_e, tm_e, mset_eq, mset_ne, if_pos, if_neg, Int.reduceAdd, Int.reduceSub, Int.reduceMul, Int.reduceNeg, Int.reduceLT, Int.reduceLE, Int.reduceEq, Int.cast_ofNat_Int, eq_self, and_true, true_and, ite_self, true_or, or_true, false_or, or_false, and_false, false_and, not_true_eq_false, not_false_eq_true, if_true, if_false, e_Parting_listenAt_0, e_Parting_listenAt_63, q_lossOf, m2, q_beatsOf]
        rw [e_Parting_listenAt_21]
        simp (disch := first | assumption | omega) only [rn, wk, al, wr_e, td_e, tm_e, mset_eq, mset_ne, if_pos, if_neg, Int.reduceAdd, Int.reduceSub, Int.reduceMul, Int.reduceNeg, Int.reduceLT, Int.reduceLE, Int.reduceEq, Int.cast_ofNat_Int, eq_self, and_true, true_and, ite_self, true_or, or_true, false_or, or_false, and_false, false_and, not_true_eq_false, not_false_eq_true, if_true, if_false]
        refine fin _ (fun h => ?_)
        unfold bn; rw [if_neg (by omega), if_neg (by omega), hb]
      · simp (disch := first | assumption | omega) only [rn, wk, al, wr_e, td_e, tm_e, mset_eq, mset_ne, if_pos, if_neg, Int.reduceAdd, Int.reduceSub, Int.reduceMul, Int.reduceNeg, Int.reduceLT, Int.reduceLE, Int.reduceEq, Int.cast_ofNat_Int, eq_self, and_true, true_and, ite_self, true_or, or_true, false_or, or_false, and_false, false_and, not_true_eq_false, not_false_eq_true, if_true, if_false, e_Parting_listenAt_0, e_Parting_listenAt_63, q_lossOf, m2, q_beatsOf]
        rw [e_Parting_listenAt_21]
        simp (disch := first | assumption | omega) only [rn, wk, al, wr_e, td_e, tm_e, mset_eq, mset_ne, if_pos, if_neg, Int.reduceAdd, Int.reduceSub, Int.reduceMul, Int.reduceNeg, Int.reduceLT, Int.reduceLE, Int.reduceEq, Int.cast_ofNat_Int, eq_self, and_true, true_and, ite_self, true_or, or_true, false_or, or_false, and_false, false_and, not_true_eq_false, not_false_eq_true, if_true, if_false]
        refine fin _ (fun h => ?_)
        unfold bn; rw [if_neg (by omega), if_pos (by omega), hb]
    · simp (disch := first | assumption | omega) only [rn, wk, al, wr_e, td_e, tm_e, mset_eq, mset_ne, if_pos, if_neg, Int.reduceAdd, Int.reduceSub, Int.reduceMul, Int.reduceNeg, Int.reduceLT, Int.reduceLE, Int.reduceEq, Int.cast_ofNat_Int, eq_self, and_true, true_and, ite_self, true_or, or_true, false_or, or_false, and_false, false_and, not_true_eq_false, not_false_eq_true, if_true, if_false, e_Parting_listenAt_0, e_Parting_listenAt_63, q_lossOf, m1, q_beatsOf]
      rw [e_Parting_listenAt_21]
      simp (disch := first | assumption | omega) only [rn, wk, al, wr_e, td_e, tm_e, mset_eq, mset_ne, if_pos, if_neg, Int.reduceAdd, Int.reduceSub, Int.reduceMul, Int.reduceNeg, Int.reduceLT, Int.reduceLE, Int.reduceEq, Int.cast_ofNat_Int, eq_self, and_true, true_and, ite_self, true_or, or_true, false_or, or_false, and_false, false_and, not_true_eq_false, not_false_eq_true, if_true, if_false, e_Parting_listenAt_0, e_Parting_listenAt_63, q_lossOf, m2, q_beatsOf]
      rw [e_Parting_listenAt_21]
      simp (disch := first | assumption | omega) only [rn, wk, al, wr_e, td_e, tm_e, mset_eq, mset_ne, if_pos, if_neg, Int.reduceAdd, Int.reduceSub, Int.reduceMul, Int.reduceNeg, Int.reduceLT, Int.reduceLE, Int.reduceEq, Int.cast_ofNat_Int, eq_self, and_true, true_and, ite_self, true_or, or_true, false_or, or_false, and_false, false_and, not_true_eq_false, not_false_eq_true, if_true, if_false]
      refine fin _ (fun h => ?_)
      unfold bn; rw [if_pos (by omega), hb]
  · have hs : sh A q p = 0 := by
      have e : ∀ i, aP A q p i = 0 := fun i => by unfold aP; rw [if_neg c]
      unfold sh; rw [e, e, e]; rfl
    have ql : ∀ t, sem (d + 2) 174 [0] t = some (0, t) := fun t => by
      have := q_leftAligned (d + 1) 0 0 0 t (by omega) (by omega) (by omega)
      simpa using this
    have hd0 : 0 ≤ dP A (q / 3) p ∧ dP A (q / 3) p ≤ 10000000 := by rcases hd with h | ⟨x, y, h⟩ <;> omega
    generalize dP A (q / 3) p = D at *
    rw [hs]
    simp (disch := first | assumption | omega) only [rn, wk, al, wr_e, td_e, tm_e, mset_eq, mset_ne, if_pos, if_neg, Int.reduceAdd, Int.reduceSub, Int.reduceMul, Int.reduceNeg, Int.reduceLT, Int.reduceLE, Int.reduceEq, Int.cast_ofNat_Int, eq_self, and_true, true_and, ite_self, true_or, or_true, false_or, or_false, and_false, false_and, not_true_eq_false, not_false_eq_true, if_true, if_false, e_Parting_listenAt_0, e_Parting_listenAt_63, e_Parting_listenAt_79, e7, q_beatsOf]
    rw [e_Parting_listenAt_21]
    simp (disch := first | assumption | omega) only [rn, wk, al, wr_e, td_e, tm_e, mset_eq, mset_ne, if_pos, if_neg, Int.reduceAdd, Int.reduceSub, Int.reduceMul, Int.reduceNeg, Int.reduceLT, Int.reduceLE, Int.reduceEq, Int.cast_ofNat_Int, eq_self, and_true, true_and, ite_self, true_or, or_true, false_or, or_false, and_false, false_and, not_true_eq_false, not_false_eq_true, if_true, if_false, e_Parting_listenAt_0, e_Parting_listenAt_63, e_Parting_listenAt_79, ql]
    refine ⟨?_, fun h => absurd rfl h⟩
    intro c i x y
    rw [mset_ne x, mset_ne y]
