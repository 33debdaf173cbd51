/-! ===== H2: mark, undo ===== -/
def tkP (s : Mem) (h g : Int) (t : Mem) : Prop := (∀ k i, 0 ≤ k ∧ k < 20 → 0 ≤ i ∧ i < ln k → t (h + k) i = s (g + k) i) ∧ ∀ c i, ¬ (h ≤ c ∧ c < h + 20) → t c i = s c i
theorem lnv : ln 0 = 7 ∧ ln 1 = 16 ∧ ln 2 = 20 ∧ ln 3 = 10 ∧ ln 4 = 10 ∧ ln 5 = 4 ∧ ln 6 = 5 ∧ ln 7 = 5 ∧ ln 8 = 45 ∧ ln 9 = 8 ∧ ln 10 = 364 ∧ ln 11 = 49 ∧ ln 12 = 3 ∧ ln 13 = 60 ∧ ln 14 = 60 ∧ ln 15 = 60 ∧ ln 16 = 60 ∧ ln 17 = 60 ∧ ln 18 = 60 ∧ ln 19 = 60 := ⟨rfl, rfl, rfl, rfl, rfl, rfl, rfl, rfl, rfl, rfl, rfl, rfl, rfl, rfl, rfl, rfl, rfl, rfl, rfl, rfl⟩
def tkS (s : Mem) (h g : Int) : Mem := mcopy (mcopy (mcopy (mcopy (mcopy (mcopy (mcopy (mset (mset (mset s h 0 (s g 0)) h 1 (s g 1)) h 2 (s g 2)) (g + 1) 0 (h + 1) 0 60) (g + 2) 0 (h + 2) 0 60) (g + 3) 0 (h + 3) 0 60) (g + 4) 0 (h + 4) 0 60) (g + 5) 0 (h + 5) 0 60) (g + 6) 0 (h + 6) 0 60) (g + 7) 0 (h + 7) 0 60
theorem q_takeSteps (d : Nat) {h g : Int} (hh : isH h) (hg : isH g) (hne : h ≠ g) (s : Mem) (h0 : s (g + 12) 0 = 0 ∨ s (g + 12) 0 = 1) : sem (d + 1) 69 [h + 12, g + 12] s = some (0, tkS s (h + 12) (g + 12)) := by
  apply CV_eq; apply c_Steps_takeFrom
  have hd : g + 20 ≤ h ∨ h + 20 ≤ g := by unfold isH at hh hg; omega
  unfold tkS
  simp (disch := first | assumption | omega) only [rn, wk, al, wr_e, td_e, tm_e, mset_eq, mset_ne, if_pos, if_neg, Int.reduceAdd, Int.reduceSub, Int.reduceMul, Int.reduceNeg, Int.reduceLT, Int.reduceLE, Int.reduceEq, Int.cast_ofNat_Int, eq_self, and_true, true_and, ite_self, true_or, or_true, false_or, or_false, and_false, false_and, not_true_eq_false, not_false_eq_true, if_true, if_false, e_Steps_takeFrom_0, ah hh, ah hg]
set_option maxHeartbeats 4000000 in
theorem q_takeFrom (d : Nat) {h g : Int} (hh : isH h) (hg : isH g) (hne : h ≠ g) (s : Mem) (h0 : s (g + 12) 0 = 0 ∨ s (g + 12) 0 = 1) (h6 : s g 6 = 0 ∨ s g 6 = 1) : CV (d + 2) 68 [h, g] s fun _ t => tkP s h g t := by
  have hd : g + 20 ≤ h ∨ h + 20 ≤ g := by unfold isH at hh hg; omega
  apply c_Hall_takeFrom
  simp (disch := first | assumption | omega) only [rn, wk, al, wr_e, td_e, tm_e, mset_eq, mset_ne, if_pos, if_neg, Int.reduceAdd, Int.reduceSub, Int.reduceMul, Int.reduceNeg, Int.reduceLT, Int.reduceLE, Int.reduceEq, Int.cast_ofNat_Int, eq_self, and_true, true_and, ite_self, true_or, or_true, false_or, or_false, and_false, false_and, not_true_eq_false, not_false_eq_true, if_true, if_false, e_Hall_takeFrom_0, ah hh, ah hg, mcopy_out]
  rw [q_takeSteps _ hh hg hne _ (by simp (disch := omega) only [mcopy_out, mset_ne]; exact h0)]
  simp (disch := first | assumption | omega) only [rn, wk, al, wr_e, td_e, tm_e, mset_eq, mset_ne, if_pos, if_neg, Int.reduceAdd, Int.reduceSub, Int.reduceMul, Int.reduceNeg, Int.reduceLT, Int.reduceLE, Int.reduceEq, Int.cast_ofNat_Int, eq_self, and_true, true_and, ite_self, true_or, or_true, false_or, or_false, and_false, false_and, not_true_eq_false, not_false_eq_true, if_true, if_false]
  unfold tkS tkP
  refine ⟨?_, ?_⟩
  · intro k i hk hi
    obtain rfl | rfl | rfl | rfl | rfl | rfl | rfl | rfl | rfl | rfl | rfl | rfl | rfl | rfl | rfl | rfl | rfl | rfl | rfl | rfl : k = 0 ∨ k = 1 ∨ k = 2 ∨ k = 3 ∨ k = 4 ∨ k = 5 ∨ k = 6 ∨ k = 7 ∨ k = 8 ∨ k = 9 ∨ k = 10 ∨ k = 11 ∨ k = 12 ∨ k = 13 ∨ k = 14 ∨ k = 15 ∨ k = 16 ∨ k = 17 ∨ k = 18 ∨ k = 19 := by omega
    all_goals simp only [lnv] at hi
    · obtain rfl | rfl | rfl | rfl | rfl | rfl | rfl : i = 0 ∨ i = 1 ∨ i = 2 ∨ i = 3 ∨ i = 4 ∨ i = 5 ∨ i = 6 := by omega
      all_goals simp (disch := omega) only [Int.add_zero, mcopy_out, mset_ne, mset_eq]
    rotate_left 11
    · obtain rfl | rfl | rfl : i = 0 ∨ i = 1 ∨ i = 2 := by omega
      all_goals simp (disch := omega) only [mcopy_out, mset_ne, mset_eq]
    all_goals
      simp (disch := omega) only [mcopy_in, mcopy_out, mset_ne]
      congr 1 <;> omega
  · intro c i hc
    simp (disch := omega) only [mcopy_out, mset_ne]
