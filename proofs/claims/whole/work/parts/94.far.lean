/-! ===== H2: far, lost, pave ===== -/
theorem inv_scr {s u : Mem} (p : Int) (hi : Inv s) (h : ∀ c i, Rv c i → u c i = s c i) (h0 : u 0 0 = p) : Inv (mset u 137 2 p) := by
  refine inv_of (s := s) ?_ ?_ hi
  · intro c i hv
    have := h c i hv
    unfold Rv at hv
    rw [mset_ne (by omega), this]
  · rw [mset_eq rfl rfl, mset_ne (by omega), h0]
theorem q_distance (d : Nat) {h : Int} (hh : isH h) (a b : Int) (s : Mem) (ha : 0 ≤ a ∧ a < 7) (hb : 0 ≤ b ∧ b < 7) : sem (d + 1) 115 [h, a, b] s = some (s (h + 11) (7 * a + b), s) := by
  apply CV_eq; apply c_Hall_distance
  have e : a * 7 = 7 * a := by omega
  simp (disch := first | assumption | omega) only [rn, wk, al, wr_e, td_e, tm_e, mset_eq, mset_ne, if_pos, if_neg, Int.reduceAdd, Int.reduceSub, Int.reduceMul, Int.reduceNeg, Int.reduceLT, Int.reduceLE, Int.reduceEq, Int.cast_ofNat_Int, eq_self, and_true, true_and, ite_self, true_or, or_true, false_or, or_false, and_false, false_and, not_true_eq_false, not_false_eq_true, if_true, if_false, e_Hall_distance_0, ah hh, e]
theorem q_beatsOf (d : Nat) (x : Int) (s : Mem) (h : 0 ≤ x ∧ x < 2000000000) : sem (d + 1) 116 [x] s = some (x / 1000, s) := by
  apply CV_eq; apply c_Hall_beatsOf
  simp (disch := first | assumption | omega) only [rn, wk, al, wr_e, td_e, tm_e, mset_eq, mset_ne, if_pos, if_neg, Int.reduceAdd, Int.reduceSub, Int.reduceMul, Int.reduceNeg, Int.reduceLT, Int.reduceLE, Int.reduceEq, Int.cast_ofNat_Int, eq_self, and_true, true_and, ite_self, true_or, or_true, false_or, or_false, and_false, false_and, not_true_eq_false, not_false_eq_true, if_true, if_false, e_Hall_beatsOf_0]
theorem q_lossOf (d : Nat) (x : Int) (s : Mem) (h : 0 ≤ x) : sem (d + 1) 118 [x] s = some (x % 1000, s) := by
  apply CV_eq; apply c_Hall_lossOf
  simp (disch := first | assumption | omega) only [rn, wk, al, wr_e, td_e, tm_e, mset_eq, mset_ne, if_pos, if_neg, Int.reduceAdd, Int.reduceSub, Int.reduceMul, Int.reduceNeg, Int.reduceLT, Int.reduceLE, Int.reduceEq, Int.cast_ofNat_Int, eq_self, and_true, true_and, ite_self, true_or, or_true, false_or, or_false, and_false, false_and, not_true_eq_false, not_false_eq_true, if_true, if_false, e_Hall_lossOf_0]
theorem inv_va {s : Mem} (hi : Inv s) : VA (win s 37) := hi.2.2.2.2.1.1
theorem far_nf {s t : Mem} (hi : Inv s) (d : Nat) (ht : t 138 = s 138) : CV (d + 2) 282 [137] t fun _ u => Fx t 146 u ∧ NF (win s 37) (u 146) := by
  have hv := inv_va hi
  refine CV_mono (q_laysFar d (win s 37) t hv.1 hv.2.1 (by rw [ht]; exact hi.2.2.2.2.1.2.1) (by rw [ht]; exact hi.2.2.2.2.1.2.2.1)) ?_
  rintro r u ⟨h1, h2⟩
  exact ⟨h1, nf_of hv.1 hv.2.1 hv.2.2.2.2.2.1 h2⟩
theorem ak_far (d : Nat) (a b : Int) : Ak (d + 30) 125 280 [a, b] := by
  apply ak_of; intro s hi
  have hc := inv_c hi
  have hr := inv_rc hi
  by_cases c1 : (0 ≤ a ∧ a < s 37 1) ∧ 0 ≤ b ∧ b < s 37 1
  · have hR : ∀ (p : Int) (Q : Int → Mem → Prop), (∀ u, Fx (mset s 0 0 p) 146 u → NF (win s 37) (u 146) → EV (d + 29) o_R_far 22 [] [137, a, b, 0] (mset s 0 0 p) Q) → CV (d + 30) 280 [137, a, b] (mset s 0 0 p) Q := by
      intro p Q h
      obtain ⟨r, u, -, h1, h2⟩ := far_nf hi d (t := mset s 0 0 p) (mset_nc (by omega))
      apply c_R_far
      simp (disch := first | assumption | omega) only [rn, wk, al, wr_e, td_e, tm_e, mset_eq, mset_ne, if_pos, if_neg, Int.reduceAdd, Int.reduceSub, Int.reduceMul, Int.reduceNeg, Int.reduceLT, Int.reduceLE, Int.reduceEq, Int.cast_ofNat_Int, eq_self, and_true, true_and, ite_self, true_or, or_true, false_or, or_false, and_false, false_and, not_true_eq_false, not_false_eq_true, if_true, if_false, e_R_far_0, e_R_far_16, e_R_far_54, e_R_far_62, q_isPlace]
      exact h u h1 h2
    have hF : ∀ (p : Int) (Q : Int → Mem → Prop), (∀ u, Fx (mset s 0 0 p) 146 u → NF (win s 37) (u 146) → (u 146 (7 * a + b) = 1000000 → Q (-1) (mset u 137 2 6)) ∧ (0 ≤ u 146 (7 * a + b) ∧ u 146 (7 * a + b) < 1000000 → Q (u 146 (7 * a + b) / 100) (mset u 137 2 0))) → EV (d + 29) o_R_far 22 [] [137, a, b, 0] (mset s 0 0 p) Q := by
      intro p Q h
      rw [e_R_far_22]
      simp (disch := first | assumption | omega) only [rn, wk, al, wr_e, td_e, tm_e, mset_eq, mset_ne, if_pos, if_neg, Int.reduceAdd, Int.reduceSub, Int.reduceMul, Int.reduceNeg, Int.reduceLT, Int.reduceLE, Int.reduceEq, Int.cast_ofNat_Int, eq_self, and_true, true_and, ite_self, true_or, or_true, false_or, or_false, and_false, false_and, not_true_eq_false, not_false_eq_true, if_true, if_false]
      refine EV_call (CV_mono (far_nf hi _ (t := mset s 0 0 p) (mset_nc (by omega))) ?_)
      rintro r u ⟨h1, h2⟩
      obtain ⟨k1, k2⟩ := h u h1 h2
      by_cases c : u 146 (7 * a + b) = 1000000
      · simp (disch := first | assumption | omega) only [rn, wk, al, wr_e, td_e, tm_e, mset_eq, mset_ne, if_pos, if_neg, Int.reduceAdd, Int.reduceSub, Int.reduceMul, Int.reduceNeg, Int.reduceLT, Int.reduceLE, Int.reduceEq, Int.cast_ofNat_Int, eq_self, and_true, true_and, ite_self, true_or, or_true, false_or, or_false, and_false, false_and, not_true_eq_false, not_false_eq_true, if_true, if_false, e_R_far_0, e_R_far_16, e_R_far_22, e_R_far_54, e_R_far_62, q_gives, q_refuse]
        exact k1 c
      · have := h2 a b c1.1 c1.2
        have : 0 ≤ u 146 (7 * a + b) ∧ u 146 (7 * a + b) < 1000000 := by
          rcases this with q | ⟨x, y, q⟩ <;> omega
        simp (disch := first | assumption | omega) only [rn, wk, al, wr_e, td_e, tm_e, mset_eq, mset_ne, if_pos, if_neg, Int.reduceAdd, Int.reduceSub, Int.reduceMul, Int.reduceNeg, Int.reduceLT, Int.reduceLE, Int.reduceEq, Int.cast_ofNat_Int, eq_self, and_true, true_and, ite_self, true_or, or_true, false_or, or_false, and_false, false_and, not_true_eq_false, not_false_eq_true, if_true, if_false, e_R_far_0, e_R_far_16, e_R_far_22, e_R_far_54, e_R_far_62, q_gives, q_refuse]
        exact k2 this
    have hn := hi.2.2.2.2.1.1.2.2.2.2.2.1 a b c1.1 c1.2
    have hn : (s 48 (7 * a + b) = 10000000) ∨ ∃ x y, s 48 (7 * a + b) = 1000 * x + y ∧ (0 ≤ x ∧ x ≤ 54) ∧ (0 ≤ y ∧ y ≤ 54) := by
      rcases hn with q | ⟨x, y, q1, q2⟩
      · exact Or.inl q.1
      · exact Or.inr ⟨x, y, q2⟩
    by_cases c2 : s 48 (7 * a + b) = 10000000
    · apply c_M_far
      simp (disch := first | assumption | omega) only [rn, wk, al, wr_e, td_e, tm_e, mset_eq, mset_ne, if_pos, if_neg, Int.reduceAdd, Int.reduceSub, Int.reduceMul, Int.reduceNeg, Int.reduceLT, Int.reduceLE, Int.reduceEq, Int.cast_ofNat_Int, eq_self, and_true, true_and, ite_self, true_or, or_true, false_or, or_false, and_false, false_and, not_true_eq_false, not_false_eq_true, if_true, if_false, e_M_far_0, e_M_far_22, e_M_far_28, e_M_far_56, e_M_far_62, q_hasPlace, q_distance _ isH37, q_fail]
      refine hR 6 _ (fun _ _ _ => hF 6 _ ?_)
      intro u h1 h2
      have := h2 a b c1.1 c1.2
      have e : win s 37 11 (7 * a + b) = s 48 (7 * a + b) := rfl
      refine ⟨fun _ => ⟨rfl, inv_scr 6 hi ?_ ?_⟩, fun h => ?_⟩
      · intro c i hv
        unfold Rv at hv
        rw [h1 c i (by omega), mset_ne (by omega)]
      · rw [h1 _ _ (by omega), mset_eq rfl rfl]
      · exfalso
        rcases this with q | ⟨x, y, q⟩ <;> omega
    · have hn : 0 ≤ s 48 (7 * a + b) ∧ s 48 (7 * a + b) < 10000000 := by
        rcases hn with q | ⟨x, y, q⟩ <;> omega
      apply c_M_far
      simp (disch := first | assumption | omega) only [rn, wk, al, wr_e, td_e, tm_e, mset_eq, mset_ne, if_pos, if_neg, Int.reduceAdd, Int.reduceSub, Int.reduceMul, Int.reduceNeg, Int.reduceLT, Int.reduceLE, Int.reduceEq, Int.cast_ofNat_Int, eq_self, and_true, true_and, ite_self, true_or, or_true, false_or, or_false, and_false, false_and, not_true_eq_false, not_false_eq_true, if_true, if_false, e_M_far_0, e_M_far_22, e_M_far_28, e_M_far_56, e_M_far_62, q_hasPlace, q_distance _ isH37, q_beatsOf, q_pass]
      refine hR 0 _ (fun _ _ _ => hF 0 _ ?_)
      intro u h1 h2
      have := h2 a b c1.1 c1.2
      have e : win s 37 11 (7 * a + b) = s 48 (7 * a + b) := rfl
      refine ⟨fun h => ?_, fun _ => ⟨?_, inv_scr 0 hi ?_ ?_⟩⟩
      · exfalso
        rcases this with q | ⟨x, y, q⟩ <;> omega
      · rcases this with q | ⟨x, y, q⟩ <;> omega
      · intro c i hv
        unfold Rv at hv
        rw [h1 c i (by omega), mset_ne (by omega)]
      · rw [h1 _ _ (by omega), mset_eq rfl rfl]
  · apply c_M_far
    simp (disch := first | assumption | omega) only [rn, wk, al, wr_e, td_e, tm_e, mset_eq, mset_ne, if_pos, if_neg, Int.reduceAdd, Int.reduceSub, Int.reduceMul, Int.reduceNeg, Int.reduceLT, Int.reduceLE, Int.reduceEq, Int.cast_ofNat_Int, eq_self, and_true, true_and, ite_self, true_or, or_true, false_or, or_false, and_false, false_and, not_true_eq_false, not_false_eq_true, if_true, if_false, e_M_far_0, e_M_far_22, e_M_far_28, e_M_far_56, e_M_far_62, q_hasPlace, q_fail]
    repeat' split
    all_goals
      apply c_R_far
      simp (disch := first | assumption | omega) only [rn, wk, al, wr_e, td_e, tm_e, mset_eq, mset_ne, if_pos, if_neg, Int.reduceAdd, Int.reduceSub, Int.reduceMul, Int.reduceNeg, Int.reduceLT, Int.reduceLE, Int.reduceEq, Int.cast_ofNat_Int, eq_self, and_true, true_and, ite_self, true_or, or_true, false_or, or_false, and_false, false_and, not_true_eq_false, not_false_eq_true, if_true, if_false, e_R_far_0, e_R_far_16, e_R_far_22, e_R_far_54, e_R_far_62, q_isPlace, q_refuse]
      repeat' split
      all_goals first | exact inv_st 1 hi | omega
theorem ak_lost (d : Nat) (a b : Int) : Ak (d + 30) 126 283 [a, b] := by
  apply ak_of; intro s hi
  have hc := inv_c hi
  have hr := inv_rc hi
  by_cases c1 : (0 ≤ a ∧ a < s 37 1) ∧ 0 ≤ b ∧ b < s 37 1
  · have hR : ∀ (p : Int) (Q : Int → Mem → Prop), (∀ u, Fx (mset s 0 0 p) 146 u → NF (win s 37) (u 146) → (u 146 (7 * a + b) = 1000000 → Q (-1) (mset u 137 2 6)) ∧ (0 ≤ u 146 (7 * a + b) ∧ u 146 (7 * a + b) < 1000000 → Q (u 146 (7 * a + b) % 100) (mset u 137 2 0))) → CV (d + 30) 283 [137, a, b] (mset s 0 0 p) Q := by
      intro p Q h
      apply c_R_lost
      simp (disch := first | assumption | omega) only [rn, wk, al, wr_e, td_e, tm_e, mset_eq, mset_ne, if_pos, if_neg, Int.reduceAdd, Int.reduceSub, Int.reduceMul, Int.reduceNeg, Int.reduceLT, Int.reduceLE, Int.reduceEq, Int.cast_ofNat_Int, eq_self, and_true, true_and, ite_self, true_or, or_true, false_or, or_false, and_false, false_and, not_true_eq_false, not_false_eq_true, if_true, if_false, e_R_lost_0, e_R_lost_16, e_R_lost_54, e_R_lost_62, q_isPlace]
      rw [e_R_lost_22]
      simp (disch := first | assumption | omega) only [rn, wk, al, wr_e, td_e, tm_e, mset_eq, mset_ne, if_pos, if_neg, Int.reduceAdd, Int.reduceSub, Int.reduceMul, Int.reduceNeg, Int.reduceLT, Int.reduceLE, Int.reduceEq, Int.cast_ofNat_Int, eq_self, and_true, true_and, ite_self, true_or, or_true, false_or, or_false, and_false, false_and, not_true_eq_false, not_false_eq_true, if_true, if_false]
      refine EV_call (CV_mono (far_nf hi _ (t := mset s 0 0 p) (mset_nc (by omega))) ?_)
      rintro r u ⟨h1, h2⟩
      obtain ⟨k1, k2⟩ := h u h1 h2
      by_cases c : u 146 (7 * a + b) = 1000000
      · simp (disch := first | assumption | omega) only [rn, wk, al, wr_e, td_e, tm_e, mset_eq, mset_ne, if_pos, if_neg, Int.reduceAdd, Int.reduceSub, Int.reduceMul, Int.reduceNeg, Int.reduceLT, Int.reduceLE, Int.reduceEq, Int.cast_ofNat_Int, eq_self, and_true, true_and, ite_self, true_or, or_true, false_or, or_false, and_false, false_and, not_true_eq_false, not_false_eq_true, if_true, if_false, e_R_lost_0, e_R_lost_16, e_R_lost_22, e_R_lost_54, e_R_lost_62, q_gives, q_refuse]
        exact k1 c
      · have := h2 a b c1.1 c1.2
        have : 0 ≤ u 146 (7 * a + b) ∧ u 146 (7 * a + b) < 1000000 := by
          rcases this with q | ⟨x, y, q⟩ <;> omega
        simp (disch := first | assumption | omega) only [rn, wk, al, wr_e, td_e, tm_e, mset_eq, mset_ne, if_pos, if_neg, Int.reduceAdd, Int.reduceSub, Int.reduceMul, Int.reduceNeg, Int.reduceLT, Int.reduceLE, Int.reduceEq, Int.cast_ofNat_Int, eq_self, and_true, true_and, ite_self, true_or, or_true, false_or, or_false, and_false, false_and, not_true_eq_false, not_false_eq_true, if_true, if_false, e_R_lost_0, e_R_lost_16, e_R_lost_22, e_R_lost_54, e_R_lost_62, q_gives, q_refuse]
        exact k2 this
    have hn := hi.2.2.2.2.1.1.2.2.2.2.2.1 a b c1.1 c1.2
    have hn : (s 48 (7 * a + b) = 10000000) ∨ ∃ x y, s 48 (7 * a + b) = 1000 * x + y ∧ (0 ≤ x ∧ x ≤ 54) ∧ (0 ≤ y ∧ y ≤ 54) := by
      rcases hn with q | ⟨x, y, q1, q2⟩
      · exact Or.inl q.1
      · exact Or.inr ⟨x, y, q2⟩
    by_cases c2 : s 48 (7 * a + b) = 10000000
    · apply c_M_lost
      simp (disch := first | assumption | omega) only [rn, wk, al, wr_e, td_e, tm_e, mset_eq, mset_ne, if_pos, if_neg, Int.reduceAdd, Int.reduceSub, Int.reduceMul, Int.reduceNeg, Int.reduceLT, Int.reduceLE, Int.reduceEq, Int.cast_ofNat_Int, eq_self, and_true, true_and, ite_self, true_or, or_true, false_or, or_false, and_false, false_and, not_true_eq_false, not_false_eq_true, if_true, if_false, e_M_lost_0, e_M_lost_22, e_M_lost_28, e_M_lost_56, e_M_lost_62, q_hasPlace, q_distance _ isH37, q_fail]
      refine hR 6 _ ?_
      intro u h1 h2
      have := h2 a b c1.1 c1.2
      have e : win s 37 11 (7 * a + b) = s 48 (7 * a + b) := rfl
      refine ⟨fun _ => ⟨rfl, inv_scr 6 hi ?_ ?_⟩, fun h => ?_⟩
      · intro c i hv
        unfold Rv at hv
        rw [h1 c i (by omega), mset_ne (by omega)]
      · rw [h1 _ _ (by omega), mset_eq rfl rfl]
      · exfalso
        rcases this with q | ⟨x, y, q⟩ <;> omega
    · have hn : 0 ≤ s 48 (7 * a + b) ∧ s 48 (7 * a + b) < 10000000 := by
        rcases hn with q | ⟨x, y, q⟩ <;> omega
      apply c_M_lost
      simp (disch := first | assumption | omega) only [rn, wk, al, wr_e, td_e, tm_e, mset_eq, mset_ne, if_pos, if_neg, Int.reduceAdd, Int.reduceSub, Int.reduceMul, Int.reduceNeg, Int.reduceLT, Int.reduceLE, Int.reduceEq, Int.cast_ofNat_Int, eq_self, and_true, true_and, ite_self, true_or, or_true, false_or, or_false, and_false, false_and, not_true_eq_false, not_false_eq_true, if_true, if_false, e_M_lost_0, e_M_lost_22, e_M_lost_28, e_M_lost_56, e_M_lost_62, q_hasPlace, q_distance _ isH37, q_lossOf, q_pass]
      refine hR 0 _ ?_
      intro u h1 h2
      have := h2 a b c1.1 c1.2
      have e : win s 37 11 (7 * a + b) = s 48 (7 * a + b) := rfl
      refine ⟨fun h => ?_, fun _ => ⟨?_, inv_scr 0 hi ?_ ?_⟩⟩
      · exfalso
        rcases this with q | ⟨x, y, q⟩ <;> omega
      · rcases this with q | ⟨x, y, q⟩ <;> omega
      · intro c i hv
        unfold Rv at hv
        rw [h1 c i (by omega), mset_ne (by omega)]
      · rw [h1 _ _ (by omega), mset_eq rfl rfl]
  · apply c_M_lost
    simp (disch := first | assumption | omega) only [rn, wk, al, wr_e, td_e, tm_e, mset_eq, mset_ne, if_pos, if_neg, Int.reduceAdd, Int.reduceSub, Int.reduceMul, Int.reduceNeg, Int.reduceLT, Int.reduceLE, Int.reduceEq, Int.cast_ofNat_Int, eq_self, and_true, true_and, ite_self, true_or, or_true, false_or, or_false, and_false, false_and, not_true_eq_false, not_false_eq_true, if_true, if_false, e_M_lost_0, e_M_lost_22, e_M_lost_28, e_M_lost_56, e_M_lost_62, q_hasPlace, q_fail]
    repeat' split
    all_goals
      apply c_R_lost
      simp (disch := first | assumption | omega) only [rn, wk, al, wr_e, td_e, tm_e, mset_eq, mset_ne, if_pos, if_neg, Int.reduceAdd, Int.reduceSub, Int.reduceMul, Int.reduceNeg, Int.reduceLT, Int.reduceLE, Int.reduceEq, Int.cast_ofNat_Int, eq_self, and_true, true_and, ite_self, true_or, or_true, false_or, or_false, and_false, false_and, not_true_eq_false, not_false_eq_true, if_true, if_false, e_R_lost_0, e_R_lost_16, e_R_lost_22, e_R_lost_54, e_R_lost_62, q_isPlace, q_refuse]
      repeat' split
      all_goals first | exact inv_st 1 hi | omega
theorem wkw_congr {A A' : Mem} {wo : Int} (h2 : A' 0 2 = A 0 2) (h3 : A' 2 = A 2) (h4 : A' 3 = A 3) (h5 : A' 4 = A 4) : ∀ n a b x y, wkw A' wo n a b x y = wkw A wo n a b x y := by
  intro n
  induction n with
  | zero => intros; rfl
  | succ n ih =>
    intro a b x y
    show (∃ w c, (0 ≤ w ∧ w < A' 0 2 ∧ w ≠ wo) ∧ ((A' 2 (2 * w) = a ∧ A' 2 (2 * w + 1) = c) ∨ (A' 2 (2 * w) = c ∧ A' 2 (2 * w + 1) = a)) ∧ wkw A' wo n c b (x - A' 3 w) (y - A' 4 w)) = (∃ w c, (0 ≤ w ∧ w < A 0 2 ∧ w ≠ wo) ∧ ((A 2 (2 * w) = a ∧ A 2 (2 * w + 1) = c) ∨ (A 2 (2 * w) = c ∧ A 2 (2 * w + 1) = a)) ∧ wkw A wo n c b (x - A 3 w) (y - A 4 w))
    rw [h2, h3, h4, h5]
    simp only [ih]
theorem Fpost_congr {A A' : Mem} {wo K F : Int} {D : Int → Int → Int} (h1 : A' 0 1 = A 0 1) (h2 : A' 0 2 = A 0 2) (h3 : A' 2 = A 2) (h4 : A' 3 = A 3) (h5 : A' 4 = A 4) (h : Fpost A wo K F D) : Fpost A' wo K F D := by
  unfold Fpost at h ⊢
  simp only [wkw_congr h2 h3 h4 h5, h1]
  exact h
theorem ak_pave (d : Nat) (w z l : Int) : Ak (d + 30) 107 293 [w, z, l] := by
  apply ak_of; intro s hi
  have hc := inv_c hi
  have hr := inv_rc hi
  by_cases c1 : (0 ≤ w ∧ w < s 37 2) ∧ (1 ≤ z ∧ z ≤ 9) ∧ 0 ≤ l ∧ l ≤ 9
  · have hvw := inv_vw hi
    have hW : VW (win (mset (mset s 40 w z) 41 w l) 37) := by
      intro v hv
      have hv' : 0 ≤ v ∧ v < s 37 2 := by simpa (disch := omega) only [win, Int.reduceAdd, mset_ne] using hv
      have q := hvw v hv'
      by_cases e : v = w
      · subst e
        simp (disch := omega) only [win, Int.reduceAdd, mset_ne, mset_eq]
        exact ⟨q.1, q.2.1, c1.2.1, c1.2.2, q.2.2.2.2⟩
      · simp (disch := omega) only [win, Int.reduceAdd, mset_ne]
        exact q
    have hC : VC (win (mset (mset s 40 w z) 41 w l) 37) := keep_VC hi (by intros; simp (disch := omega) only [mset_nc, mset_ne])
    apply c_M_pave
    simp (disch := first | assumption | omega) only [rn, wk, al, wr_e, td_e, tm_e, mset_eq, mset_ne, if_pos, if_neg, Int.reduceAdd, Int.reduceSub, Int.reduceMul, Int.reduceNeg, Int.reduceLT, Int.reduceLE, Int.reduceEq, Int.cast_ofNat_Int, eq_self, and_true, true_and, ite_self, true_or, or_true, false_or, or_false, and_false, false_and, not_true_eq_false, not_false_eq_true, if_true, if_false, e_M_pave_0, e_M_pave_15, e_M_pave_16, e_M_pave_32, e_M_pave_33, e_M_pave_56, q_hasWay]
    rw [e_M_pave_62]
    simp (disch := first | assumption | omega) only [rn, wk, al, wr_e, td_e, tm_e, mset_eq, mset_ne, if_pos, if_neg, Int.reduceAdd, Int.reduceSub, Int.reduceMul, Int.reduceNeg, Int.reduceLT, Int.reduceLE, Int.reduceEq, Int.cast_ofNat_Int, eq_self, and_true, true_and, ite_self, true_or, or_true, false_or, or_false, and_false, false_and, not_true_eq_false, not_false_eq_true, if_true, if_false]
    refine EV_call (CV_mono (q_measure _ isH37 48 (-1) (mset (mset s 40 w z) 41 w l) rfl (by omega) hC hW) ?_)
    rintro r t ⟨f1, f2⟩
    simp (disch := first | assumption | omega) only [rn, wk, al, wr_e, td_e, tm_e, mset_eq, mset_ne, if_pos, if_neg, Int.reduceAdd, Int.reduceSub, Int.reduceMul, Int.reduceNeg, Int.reduceLT, Int.reduceLE, Int.reduceEq, Int.cast_ofNat_Int, eq_self, and_true, true_and, ite_self, true_or, or_true, false_or, or_false, and_false, false_and, not_true_eq_false, not_false_eq_true, if_true, if_false, q_grant]
    have e1 : 10 + 4 * w + 2 = 12 + 4 * w := by omega
    have e2 : 10 + 4 * w + 3 = 13 + 4 * w := by omega
    have g138 : t 138 1 = s 37 2 := by rw [f1 _ _ (by omega), mset_ne (by omega), mset_ne (by omega)]; omega
    apply c_R_pave
    simp (disch := first | assumption | omega) only [rn, wk, al, wr_e, td_e, tm_e, mset_eq, mset_ne, if_pos, if_neg, Int.reduceAdd, Int.reduceSub, Int.reduceMul, Int.reduceNeg, Int.reduceLT, Int.reduceLE, Int.reduceEq, Int.cast_ofNat_Int, eq_self, and_true, true_and, ite_self, true_or, or_true, false_or, or_false, and_false, false_and, not_true_eq_false, not_false_eq_true, if_true, if_false, e_R_pave_0, e_R_pave_38, e_R_pave_44, g138, q_isFrom, q_wayRow, q_is, e1, e2]
    have G : ∀ c i, c ≠ 48 → ¬ (c = 40 ∧ i = w) → ¬ (c = 41 ∧ i = w) → t c i = s c i := fun c i a b e => by
      rw [f1 c i a, mset_ne e, mset_ne b]
    refine inv_up hi (by simp (disch := omega) only [mset_eq, mset_ne]) (by intro c i hv h1 h2 h3; unfold Rv at hv; simp (disch := omega) only [mset_ne, G]) ?_
    have hF : ∀ c, c ≠ 48 → c ≠ 40 → c ≠ 41 → t c = s c := fun c a b e => funext fun i => G c i a (by omega) (by omega)
    have hW2 : VW (win (mset (mset (mset (mset t 0 0 0) 138 (12 + 4 * w) z) 138 (13 + 4 * w) l) 137 2 0) 37) := by
      intro v hv
      have hv2 : 0 ≤ v ∧ v < s 37 2 := by simpa (disch := omega) only [win, Int.reduceAdd, mset_ne, G] using hv
      have q := hvw v hv2
      by_cases e : v = w
      · subst e
        simp (disch := omega) only [win, Int.reduceAdd, mset_ne, G, f1 40, f1 41, mset_eq]
        exact ⟨q.1, q.2.1, c1.2.1, c1.2.2, q.2.2.2.2⟩
      · simp (disch := omega) only [win, Int.reduceAdd, mset_ne, G]
        exact q
    have hC2 : VC (win (mset (mset (mset (mset t 0 0 0) 138 (12 + 4 * w) z) 138 (13 + 4 * w) l) 137 2 0) 37) := keep_VC hi (by intros; simp (disch := omega) only [mset_ne, G])
    refine ⟨⟨hC2, hW2, keep_VS hi ?_ ?_ ?_, keep_VL hi ?_ ?_ ?_ ?_ ?_, keep_VU hi ?_ ?_ ?_, ?vn, keep_VT hi ?_ ?_ ?_ ?_⟩, keep_RC hi ?_ ?_, ?rw, keep_RS hi ?_ ?_ ?_, keep_RL hi ?_ ?_ ?_ ?_ ?_, keep_RK hi ?_ ?_ ?_ ?_ ?_, keep_RU hi ?_ ?_ ?_, keep_RN hi ?_ ?_ ?_ ?_ ?_, keep_RT hi ?_ ?_ ?_⟩
    case vn =>
      refine vn_of hC2 hW2 ?_
      have e : (fun a b => win (mset (mset (mset (mset t 0 0 0) 138 (12 + 4 * w) z) 138 (13 + 4 * w) l) 137 2 0) 37 11 (7 * a + b)) = fun a b => t 48 (7 * a + b) := by
        funext a b
        simp (disch := omega) only [win, Int.reduceAdd, mset_ne]
      rw [e]
      refine Fpost_congr ?_ ?_ ?_ ?_ ?_ f2
      · simp (disch := omega) only [win, Int.reduceAdd, mset_ne, G]
      · simp (disch := omega) only [win, Int.reduceAdd, mset_ne, G]
      · funext i
        simp (disch := omega) only [win, Int.reduceAdd, mset_ne, G]
      · funext i
        show mset (mset (mset (mset t 0 0 0) 138 (12 + 4 * w) z) 138 (13 + 4 * w) l) 137 2 0 40 i = mset (mset s 40 w z) 41 w l 40 i
        rw [mset_ne (by omega), mset_ne (by omega), mset_ne (by omega), mset_ne (by omega)]
        exact f1 _ _ (by omega)
      · funext i
        show mset (mset (mset (mset t 0 0 0) 138 (12 + 4 * w) z) 138 (13 + 4 * w) l) 137 2 0 41 i = mset (mset s 40 w z) 41 w l 41 i
        rw [mset_ne (by omega), mset_ne (by omega), mset_ne (by omega), mset_ne (by omega)]
        exact f1 _ _ (by omega)
    case rw =>
      intro v hv
      have hv2 : 0 ≤ v ∧ v < s 37 2 := by simpa (disch := omega) only [win, Int.reduceAdd, mset_ne, G] using hv
      have q := inv_rw hi v hv2
      by_cases e : v = w
      · subst e
        simp (disch := omega) only [win, Int.reduceAdd, mset_ne, G, f1 40, f1 41, mset_eq]
        exact ⟨q.1, q.2.1, trivial, trivial⟩
      · simp (disch := omega) only [win, Int.reduceAdd, mset_ne, G]
        exact q
    all_goals
      intros
      simp (disch := omega) only [mset_nc, mset_ne, G, hF]
  · have hm : CV (d + 30) 293 [137, w, z, l] (mset s 0 0 1) fun r' u => r' = 0 ∧ Inv u := by
      apply c_R_pave
      simp (disch := first | assumption | omega) only [rn, wk, al, wr_e, td_e, tm_e, mset_eq, mset_ne, if_pos, if_neg, Int.reduceAdd, Int.reduceSub, Int.reduceMul, Int.reduceNeg, Int.reduceLT, Int.reduceLE, Int.reduceEq, Int.cast_ofNat_Int, eq_self, and_true, true_and, ite_self, true_or, or_true, false_or, or_false, and_false, false_and, not_true_eq_false, not_false_eq_true, if_true, if_false, e_R_pave_0, e_R_pave_38, e_R_pave_44, q_isFrom, q_is]
      repeat' split
      all_goals first | exact inv_st 1 hi | omega
    apply c_M_pave
    simp (disch := first | assumption | omega) only [rn, wk, al, wr_e, td_e, tm_e, mset_eq, mset_ne, if_pos, if_neg, Int.reduceAdd, Int.reduceSub, Int.reduceMul, Int.reduceNeg, Int.reduceLT, Int.reduceLE, Int.reduceEq, Int.cast_ofNat_Int, eq_self, and_true, true_and, ite_self, true_or, or_true, false_or, or_false, and_false, false_and, not_true_eq_false, not_false_eq_true, if_true, if_false, e_M_pave_0, e_M_pave_15, e_M_pave_16, e_M_pave_32, e_M_pave_33, e_M_pave_56, e_M_pave_62, q_hasWay, q_deny]
    repeat' split
    all_goals first | exact hm | omega
