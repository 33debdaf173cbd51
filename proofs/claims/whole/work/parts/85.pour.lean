/-! ===== H2: pour, feed ===== -/
theorem mcopy_in {s : Mem} {a p e q n b j : Int} (h1 : b = e) (h2 : q ≤ j ∧ j < q + n) : mcopy s a p e q n b j = s a (p + (j - q)) := by unfold mcopy; rw [if_pos h1, if_pos h2]
theorem mcopy_out {s : Mem} {a p e q n b j : Int} (h : ¬ (b = e ∧ q ≤ j ∧ j < q + n)) : mcopy s a p e q n b j = s b j := by
  unfold mcopy
  by_cases h1 : b = e
  · rw [if_pos h1, if_neg (fun h2 => h ⟨h1, h2⟩), h1]
  · rw [if_neg h1]
theorem mcopy_nil {s : Mem} {a p e q : Int} : mcopy s a p e q 0 = s := by
  funext b j
  exact mcopy_out (by omega)
theorem mcopy_step {s : Mem} {a p q n : Int} (h : 0 ≤ n) : mset (mcopy s a p a q n) a (q + n) (s a (p + n)) = mcopy s a p a q (n + 1) := by
  funext b j
  by_cases e : b = a
  · subst e
    by_cases e2 : j = q + n
    · subst e2; rw [mset_eq rfl rfl, mcopy_in rfl (by omega)]; congr 1; omega
    · rw [mset_ne (by omega)]
      by_cases e3 : q ≤ j ∧ j < q + n
      · rw [mcopy_in rfl e3, mcopy_in rfl (by omega)]
      · rw [mcopy_out (by omega), mcopy_out (by omega)]
  · rw [mset_ne (by omega), mcopy_out (by omega), mcopy_out (by omega)]
theorem mcopy_back {s : Mem} {a p q n : Int} (h : 0 ≤ n) : mset (mcopy s a (p + 1) a (q + 1) n) a q (s a p) = mcopy s a p a q (n + 1) := by
  funext b j
  by_cases e : b = a
  · subst e
    by_cases e2 : j = q
    · subst e2; rw [mset_eq rfl rfl, mcopy_in rfl (by omega)]; congr 1; omega
    · rw [mset_ne (by omega)]
      by_cases e3 : q + 1 ≤ j ∧ j < q + 1 + n
      · rw [mcopy_in rfl e3, mcopy_in rfl (by omega)]; congr 1; omega
      · rw [mcopy_out (by omega), mcopy_out (by omega)]
  · rw [mset_ne (by omega), mcopy_out (by omega), mcopy_out (by omega)]
theorem q_reaches (d : Nat) (x p m : Int) (s : Mem) (hx : 0 ≤ x ∧ x < 4) (hp : in32 p) (hm : in32 m) : sem (d + 1) 16 [3, x, p, m] s = some (if p + m ≤ s 5 x then 1 else 0, s) := by
  apply CV_eq; apply c_Trays_reaches
  unfold in32 at hp hm
  have e' : ∀ x y : Int, (0 < lcmp_ x y) = (y < x) := by intro x y; apply propext; unfold lcmp_; (repeat' split) <;> omega
  simp (disch := first | assumption | omega) only [rn, wk, al, wr_e, td_e, tm_e, mset_eq, mset_ne, if_pos, if_neg, Int.reduceAdd, Int.reduceSub, Int.reduceMul, Int.reduceNeg, Int.reduceLT, Int.reduceLE, Int.reduceEq, Int.cast_ofNat_Int, eq_self, and_true, true_and, ite_self, true_or, or_true, false_or, or_false, and_false, false_and, not_true_eq_false, not_false_eq_true, if_true, if_false, e_Trays_reaches_0, e_Trays_reaches_20, e_Trays_reaches_21, e', wl_e]
  repeat' split
theorem q_move (d : Nat) (x p y q m : Int) (s : Mem) (hx : 0 ≤ x ∧ x < 4) (hy : 0 ≤ y ∧ y < 4) (hp : 0 ≤ p ∧ 0 ≤ m ∧ p + m ≤ 60) (hq : 0 ≤ q ∧ q + m ≤ 60) : sem (d + 1) 17 [3, x, p, y, q, m] s = some (0, mcopy s 6 (60 * x + p) 6 (60 * y + q) m) := by
  apply CV_eq; apply c_Trays_move
  have e1 : x * 60 = 60 * x := by omega
  have e2 : y * 60 = 60 * y := by omega
  simp (disch := first | assumption | omega) only [rn, wk, al, wr_e, td_e, tm_e, mset_eq, mset_ne, if_pos, if_neg, Int.reduceAdd, Int.reduceSub, Int.reduceMul, Int.reduceNeg, Int.reduceLT, Int.reduceLE, Int.reduceEq, Int.cast_ofNat_Int, eq_self, and_true, true_and, ite_self, true_or, or_true, false_or, or_false, and_false, false_and, not_true_eq_false, not_false_eq_true, if_true, if_false, e_Trays_move_0, e1, e2]
theorem lp_pour_up (d : Nat) (x p y q m : Int) (s : Mem) (hx : 0 ≤ x ∧ x < 4) (hy : 0 ≤ y ∧ y < 4) (hp : 0 ≤ p ∧ 0 ≤ m ∧ p + m ≤ 60) (hq : 0 ≤ q ∧ q + m ≤ 60) (hd : q ≤ p) (Q : Int → Mem → Prop) (hQ : EV (d + 1) o_R_pour 180 [] [137, x, p, y, q, m, m, if m = 0 then 0 else m - 1] (mcopy s 142 (60 * x + p) 142 (60 * y + q) m) Q) : ∀ (n : Nat) (k : Int), 0 ≤ k → k + n = m → EV (d + 1) o_R_pour 118 [] [137, x, p, y, q, m, k, if k = 0 then 0 else k - 1] (mcopy s 142 (60 * x + p) 142 (60 * y + q) k) Q := by
  intro n
  induction n with
  | zero =>
    intro k h0 hk
    have e : k = m := by omega
    subst e
    rw [e_R_pour_118]
    simp (disch := first | assumption | omega) only [rn, wk, al, wr_e, td_e, tm_e, mset_eq, mset_ne, if_pos, if_neg, Int.reduceAdd, Int.reduceSub, Int.reduceMul, Int.reduceNeg, Int.reduceLT, Int.reduceLE, Int.reduceEq, Int.cast_ofNat_Int, eq_self, and_true, true_and, ite_self, true_or, or_true, false_or, or_false, and_false, false_and, not_true_eq_false, not_false_eq_true, if_true, if_false]
    exact hQ
  | succ n ih =>
    intro k h0 hk
    have e : (if k + 1 = 0 then 0 else k + 1 - 1) = k := by rw [if_neg (by omega)]; omega
    have hi := ih (k + 1) (by omega) (by omega)
    rw [e] at hi
    rw [e_R_pour_118]
    simp (disch := first | assumption | omega) only [rn, wk, al, wr_e, td_e, tm_e, mset_eq, mset_ne, if_pos, if_neg, Int.reduceAdd, Int.reduceSub, Int.reduceMul, Int.reduceNeg, Int.reduceLT, Int.reduceLE, Int.reduceEq, Int.cast_ofNat_Int, eq_self, and_true, true_and, ite_self, true_or, or_true, false_or, or_false, and_false, false_and, not_true_eq_false, not_false_eq_true, if_true, if_false, e_R_pour_0, e_R_pour_28, e_R_pour_34, e_R_pour_54, e_R_pour_60, e_R_pour_82, e_R_pour_109, e_R_pour_115, e_R_pour_141, e_R_pour_143, mcopy_out, mcopy_step]
    exact hi
theorem lp_pour_dn (d : Nat) (x p y q m : Int) (s : Mem) (hx : 0 ≤ x ∧ x < 4) (hy : 0 ≤ y ∧ y < 4) (hp : 0 ≤ p ∧ 0 ≤ m ∧ p + m ≤ 60) (hq : 0 ≤ q ∧ q + m ≤ 60) (hd : p < q) (Q : Int → Mem → Prop) (hQ : ∀ z, EV (d + 1) o_R_pour 180 [] [137, x, p, y, q, m, m, z] (mcopy s 142 (60 * x + p) 142 (60 * y + q) m) Q) : ∀ (n : Nat) (k z : Int), 0 ≤ k → k + n = m → EV (d + 1) o_R_pour 118 [] [137, x, p, y, q, m, k, z] (mcopy s 142 (60 * x + p + (m - k)) 142 (60 * y + q + (m - k)) k) Q := by
  intro n
  induction n with
  | zero =>
    intro k z h0 hk
    have e : k = m := by omega
    subst e
    rw [e_R_pour_118]
    simp (disch := first | assumption | omega) only [rn, wk, al, wr_e, td_e, tm_e, mset_eq, mset_ne, if_pos, if_neg, Int.reduceAdd, Int.reduceSub, Int.reduceMul, Int.reduceNeg, Int.reduceLT, Int.reduceLE, Int.reduceEq, Int.cast_ofNat_Int, eq_self, and_true, true_and, ite_self, true_or, or_true, false_or, or_false, and_false, false_and, not_true_eq_false, not_false_eq_true, if_true, if_false, Int.sub_self, Int.add_zero]
    exact hQ z
  | succ n ih =>
    intro k z h0 hk
    have hi := ih (k + 1) (m - 1 - k) (by omega) (by omega)
    rw [e_R_pour_118]
    have e1 : 60 * x + p + (m - k) = 60 * x + p + (m - 1 - k) + 1 := by omega
    have e2 : 60 * y + q + (m - k) = 60 * y + q + (m - 1 - k) + 1 := by omega
    have e3 : m - (k + 1) = m - 1 - k := by omega
    rw [e3] at hi
    simp (disch := first | assumption | omega) only [rn, wk, al, wr_e, td_e, tm_e, mset_eq, mset_ne, if_pos, if_neg, Int.reduceAdd, Int.reduceSub, Int.reduceMul, Int.reduceNeg, Int.reduceLT, Int.reduceLE, Int.reduceEq, Int.cast_ofNat_Int, eq_self, and_true, true_and, ite_self, true_or, or_true, false_or, or_false, and_false, false_and, not_true_eq_false, not_false_eq_true, if_true, if_false, e_R_pour_0, e_R_pour_28, e_R_pour_34, e_R_pour_54, e_R_pour_60, e_R_pour_82, e_R_pour_109, e_R_pour_115, e_R_pour_141, e_R_pour_143, mcopy_out, e1, e2, mcopy_back]
    exact hi
theorem ak_pour (d : Nat) (x p y q m : Int) (hp : in32 p) (hq : in32 q) (hm : in32 m) : Ak (d + 30) 15 223 [x, p, y, q, m] := by
  apply ak_of; intro s hi
  have hp' := hp
  have hq' := hq
  have hm' := hm
  unfold in32 at hp' hq' hm'
  by_cases c1 : (0 ≤ x ∧ x < 4) ∧ (0 ≤ y ∧ y < 4) ∧ 0 ≤ p ∧ 0 ≤ q ∧ 0 ≤ m
  · obtain ⟨cx, cy, c1⟩ := c1
    by_cases c2 : s 4 x = -1 ∨ s 4 y = -1
    · have c3 : s 141 x = -1 ∨ s 141 y = -1 := by
        rcases hi.2.2.1 x cx with a | a
        · exact Or.inl a.2
        · rcases hi.2.2.1 y cy with b | b
          · exact Or.inr b.2
          · omega
      have hm : CV (d + 30) 223 [137, x, p, y, q, m] (mset s 0 0 2) fun r' u => r' = 0 ∧ Inv u := by
        apply c_R_pour
        simp (disch := first | assumption | omega) only [rn, wk, al, wr_e, td_e, tm_e, mset_eq, mset_ne, if_pos, if_neg, Int.reduceAdd, Int.reduceSub, Int.reduceMul, Int.reduceNeg, Int.reduceLT, Int.reduceLE, Int.reduceEq, Int.cast_ofNat_Int, eq_self, and_true, true_and, ite_self, true_or, or_true, false_or, or_false, and_false, false_and, not_true_eq_false, not_false_eq_true, if_true, if_false, e_R_pour_0, e_R_pour_28, e_R_pour_34, e_R_pour_54, e_R_pour_60, e_R_pour_82, e_R_pour_109, e_R_pour_115, e_R_pour_141, e_R_pour_143, e_R_pour_180, q_isTray, q_is]
        repeat' split
        all_goals first | exact inv_st 2 hi | omega
      apply c_M_pour
      simp (disch := first | assumption | omega) only [rn, wk, al, wr_e, td_e, tm_e, mset_eq, mset_ne, if_pos, if_neg, Int.reduceAdd, Int.reduceSub, Int.reduceMul, Int.reduceNeg, Int.reduceLT, Int.reduceLE, Int.reduceEq, Int.cast_ofNat_Int, eq_self, and_true, true_and, ite_self, true_or, or_true, false_or, or_false, and_false, false_and, not_true_eq_false, not_false_eq_true, if_true, if_false, e_M_pour_0, e_M_pour_36, e_M_pour_42, e_M_pour_64, e_M_pour_70, e_M_pour_98, e_M_pour_127, e_M_pour_133, q_isOne, q_isMissing, q_deny]
      repeat' split
      all_goals first | exact hm | omega
    · rcases hi.2.2.1 x cx with a | ⟨a1, a2, a3, a4, a5⟩
      · omega
      · rcases hi.2.2.1 y cy with b | ⟨b1, b2, b3, b4, b5⟩
        · omega
        · by_cases c3 : s 4 x = s 4 y
          · by_cases c4 : p + m ≤ s 5 x ∧ q + m ≤ s 5 y
            · apply c_M_pour
              simp (disch := first | assumption | omega) only [rn, wk, al, wr_e, td_e, tm_e, mset_eq, mset_ne, if_pos, if_neg, Int.reduceAdd, Int.reduceSub, Int.reduceMul, Int.reduceNeg, Int.reduceLT, Int.reduceLE, Int.reduceEq, Int.cast_ofNat_Int, eq_self, and_true, true_and, ite_self, true_or, or_true, false_or, or_false, and_false, false_and, not_true_eq_false, not_false_eq_true, if_true, if_false, e_M_pour_0, e_M_pour_36, e_M_pour_42, e_M_pour_64, e_M_pour_70, e_M_pour_98, e_M_pour_127, e_M_pour_133, q_isOne, q_isMissing, q_reaches, q_move, q_grant]
              have hfin : ∀ u, u = mset (mcopy (mset (mcopy s 6 (60 * x + p) 6 (60 * y + q) m) 0 0 0) 142 (60 * x + p) 142 (60 * y + q) m) 137 2 0 → Inv u := by
                intro u hu
                subst hu
                refine ⟨by simp (disch := omega) only [mset_eq, mset_ne, mcopy_out], keep_FA hi ?_ ?_ ?_ ?_ ?_, ?_, keep_TP hi ?_ ?_ ?_ ?_, keep_HR hi ?_ ?_ ?_, keep_MK hi ?_ ?_ ?_ ?_⟩
                rotate_left 5
                · intro t' ht'
                  have htr := hi.2.2.1 t' ht'
                  simp (disch := omega) only [mset_ne, mcopy_out]
                  rcases htr with q | ⟨q1, q2, q3, q4, q5⟩
                  · exact Or.inl q
                  · refine Or.inr ⟨q1, q2, q3, q4, ?_⟩
                    intro i b
                    by_cases e : 60 * y + q ≤ 60 * t' + i ∧ 60 * t' + i < 60 * y + q + m
                    · simp (disch := omega) only [mset_ne, mcopy_in, mcopy_out]
                      have e5 := a5 (p + (60 * t' + i - (60 * y + q))) (by omega)
                      rw [show 60 * x + p + (60 * t' + i - (60 * y + q)) = 60 * x + (p + (60 * t' + i - (60 * y + q))) by omega]
                      exact e5
                    · simp (disch := omega) only [mset_ne, mcopy_out]
                      exact q5 i b
                all_goals
                  intros
                  simp (disch := omega) only [mset_ne, mcopy_out]
              apply c_R_pour
              simp (disch := first | assumption | omega) only [rn, wk, al, wr_e, td_e, tm_e, mset_eq, mset_ne, if_pos, if_neg, Int.reduceAdd, Int.reduceSub, Int.reduceMul, Int.reduceNeg, Int.reduceLT, Int.reduceLE, Int.reduceEq, Int.cast_ofNat_Int, eq_self, and_true, true_and, ite_self, true_or, or_true, false_or, or_false, and_false, false_and, not_true_eq_false, not_false_eq_true, if_true, if_false, e_R_pour_0, e_R_pour_28, e_R_pour_34, e_R_pour_54, e_R_pour_60, e_R_pour_82, e_R_pour_109, e_R_pour_115, e_R_pour_141, e_R_pour_143, e_R_pour_180, q_isTray, mcopy_out]
              by_cases c5 : p < q
              · have hl := lp_pour_dn (d + 28) x p y q m (mset (mcopy s 6 (60 * x + p) 6 (60 * y + q) m) 0 0 0) cx cy (by omega) (by omega) c5 (fun r' u => r' = 1 ∧ Inv u) ?_ m.toNat 0 0 (by omega) (by omega)
                · rw [mcopy_nil] at hl; exact hl
                · intro z
                  simp (disch := first | assumption | omega) only [rn, wk, al, wr_e, td_e, tm_e, mset_eq, mset_ne, if_pos, if_neg, Int.reduceAdd, Int.reduceSub, Int.reduceMul, Int.reduceNeg, Int.reduceLT, Int.reduceLE, Int.reduceEq, Int.cast_ofNat_Int, eq_self, and_true, true_and, ite_self, true_or, or_true, false_or, or_false, and_false, false_and, not_true_eq_false, not_false_eq_true, if_true, if_false, e_R_pour_0, e_R_pour_28, e_R_pour_34, e_R_pour_54, e_R_pour_60, e_R_pour_82, e_R_pour_109, e_R_pour_115, e_R_pour_141, e_R_pour_143, e_R_pour_180, q_is]
                  exact hfin _ rfl
              · have hl := lp_pour_up (d + 28) x p y q m (mset (mcopy s 6 (60 * x + p) 6 (60 * y + q) m) 0 0 0) cx cy (by omega) (by omega) (by omega) (fun r' u => r' = 1 ∧ Inv u) ?_ m.toNat 0 (by omega) (by omega)
                · rw [mcopy_nil, if_pos rfl] at hl; exact hl
                · simp (disch := first | assumption | omega) only [rn, wk, al, wr_e, td_e, tm_e, mset_eq, mset_ne, if_pos, if_neg, Int.reduceAdd, Int.reduceSub, Int.reduceMul, Int.reduceNeg, Int.reduceLT, Int.reduceLE, Int.reduceEq, Int.cast_ofNat_Int, eq_self, and_true, true_and, ite_self, true_or, or_true, false_or, or_false, and_false, false_and, not_true_eq_false, not_false_eq_true, if_true, if_false, e_R_pour_0, e_R_pour_28, e_R_pour_34, e_R_pour_54, e_R_pour_60, e_R_pour_82, e_R_pour_109, e_R_pour_115, e_R_pour_141, e_R_pour_143, e_R_pour_180, q_is]
                  exact hfin _ rfl
            · have hm : CV (d + 30) 223 [137, x, p, y, q, m] (mset s 0 0 3) fun r' u => r' = 0 ∧ Inv u := by
                apply c_R_pour
                simp (disch := first | assumption | omega) only [rn, wk, al, wr_e, td_e, tm_e, mset_eq, mset_ne, if_pos, if_neg, Int.reduceAdd, Int.reduceSub, Int.reduceMul, Int.reduceNeg, Int.reduceLT, Int.reduceLE, Int.reduceEq, Int.cast_ofNat_Int, eq_self, and_true, true_and, ite_self, true_or, or_true, false_or, or_false, and_false, false_and, not_true_eq_false, not_false_eq_true, if_true, if_false, e_R_pour_0, e_R_pour_28, e_R_pour_34, e_R_pour_54, e_R_pour_60, e_R_pour_82, e_R_pour_109, e_R_pour_115, e_R_pour_141, e_R_pour_143, e_R_pour_180, q_isTray, q_is]
                repeat' split
                all_goals first | exact inv_st 3 hi | omega
              apply c_M_pour
              simp (disch := first | assumption | omega) only [rn, wk, al, wr_e, td_e, tm_e, mset_eq, mset_ne, if_pos, if_neg, Int.reduceAdd, Int.reduceSub, Int.reduceMul, Int.reduceNeg, Int.reduceLT, Int.reduceLE, Int.reduceEq, Int.cast_ofNat_Int, eq_self, and_true, true_and, ite_self, true_or, or_true, false_or, or_false, and_false, false_and, not_true_eq_false, not_false_eq_true, if_true, if_false, e_M_pour_0, e_M_pour_36, e_M_pour_42, e_M_pour_64, e_M_pour_70, e_M_pour_98, e_M_pour_127, e_M_pour_133, q_isOne, q_isMissing, q_reaches, q_deny]
              repeat' split
              all_goals first | exact hm | omega
          · apply c_M_pour
            simp (disch := first | assumption | omega) only [rn, wk, al, wr_e, td_e, tm_e, mset_eq, mset_ne, if_pos, if_neg, Int.reduceAdd, Int.reduceSub, Int.reduceMul, Int.reduceNeg, Int.reduceLT, Int.reduceLE, Int.reduceEq, Int.cast_ofNat_Int, eq_self, and_true, true_and, ite_self, true_or, or_true, false_or, or_false, and_false, false_and, not_true_eq_false, not_false_eq_true, if_true, if_false, e_M_pour_0, e_M_pour_36, e_M_pour_42, e_M_pour_64, e_M_pour_70, e_M_pour_98, e_M_pour_127, e_M_pour_133, q_isOne, q_isMissing, q_deny]
            apply c_R_pour
            simp (disch := first | assumption | omega) only [rn, wk, al, wr_e, td_e, tm_e, mset_eq, mset_ne, if_pos, if_neg, Int.reduceAdd, Int.reduceSub, Int.reduceMul, Int.reduceNeg, Int.reduceLT, Int.reduceLE, Int.reduceEq, Int.cast_ofNat_Int, eq_self, and_true, true_and, ite_self, true_or, or_true, false_or, or_false, and_false, false_and, not_true_eq_false, not_false_eq_true, if_true, if_false, e_R_pour_0, e_R_pour_28, e_R_pour_34, e_R_pour_54, e_R_pour_60, e_R_pour_82, e_R_pour_109, e_R_pour_115, e_R_pour_141, e_R_pour_143, e_R_pour_180, q_isTray, q_is]
            exact inv_st 8 hi
  · have hm : CV (d + 30) 223 [137, x, p, y, q, m] (mset s 0 0 1) fun r' u => r' = 0 ∧ Inv u := by
      apply c_R_pour
      simp (disch := first | assumption | omega) only [rn, wk, al, wr_e, td_e, tm_e, mset_eq, mset_ne, if_pos, if_neg, Int.reduceAdd, Int.reduceSub, Int.reduceMul, Int.reduceNeg, Int.reduceLT, Int.reduceLE, Int.reduceEq, Int.cast_ofNat_Int, eq_self, and_true, true_and, ite_self, true_or, or_true, false_or, or_false, and_false, false_and, not_true_eq_false, not_false_eq_true, if_true, if_false, e_R_pour_0, e_R_pour_28, e_R_pour_34, e_R_pour_54, e_R_pour_60, e_R_pour_82, e_R_pour_109, e_R_pour_115, e_R_pour_141, e_R_pour_143, e_R_pour_180, q_isTray, q_is]
      repeat' split
      all_goals first | exact inv_st 1 hi | omega
    apply c_M_pour
    simp (disch := first | assumption | omega) only [rn, wk, al, wr_e, td_e, tm_e, mset_eq, mset_ne, if_pos, if_neg, Int.reduceAdd, Int.reduceSub, Int.reduceMul, Int.reduceNeg, Int.reduceLT, Int.reduceLE, Int.reduceEq, Int.cast_ofNat_Int, eq_self, and_true, true_and, ite_self, true_or, or_true, false_or, or_false, and_false, false_and, not_true_eq_false, not_false_eq_true, if_true, if_false, e_M_pour_0, e_M_pour_36, e_M_pour_42, e_M_pour_64, e_M_pour_70, e_M_pour_98, e_M_pour_127, e_M_pour_133, q_isOne, q_deny]
    repeat' split
    all_goals first | exact hm | omega
