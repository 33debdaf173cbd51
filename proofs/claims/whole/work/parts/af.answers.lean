/-! ===== H2: answers, answerAt, with, fewest alike ===== -/
theorem q_lays2 (d : Nat) (A s : Mem) (hK : KA A) (hR : KR A s) (n so : Int) (hn : 0 ≤ n ∧ n ≤ 4) (l : List (List Int)) (hl : EN A n [] l) : CV (d + 7) 321 [137, n, so] s fun _ t => Fan s t ∧ NtR (l.foldl (nt so) (0, 0, 5, none)) t := by
  refine CV_mono (q_laysAnswers d A s hK hR n so hn) ?_
  rintro r t ⟨f, l', h', hN⟩
  refine ⟨f, ?_⟩
  rw [fd_pm (nt so) (nt_c so) l l' hl.1 h'.1 (fun T => by rw [hl.2, h'.2])]
  exact hN
theorem on_ne (o : Option (List Int)) (T : List Int) : on_ o T ≠ none := by
  cases o with
  | none => intro h; exact absurd h (by simp [on_])
  | some B => intro h; exact absurd h (by simp [on_])
theorem fd_sm (so : Int) : ∀ (l : List (List Int)) (N : Ntt), N.2.2.2 ≠ none → (l.foldl (nt so) N).2.2.2 ≠ none
  | [], _, h => h
  | T :: l, N, _ => fd_sm so l (nt so N T) (on_ne N.2.2.2 T)
/-- what is known of the book of all answers -/
theorem fd_ok (so : Int) (l : List (List Int)) (hl : (l.length : Int) ≤ 50625) (N : Ntt) (hN : N = l.foldl (nt so) (0, 0, 5, none)) : (0 ≤ N.1 ∧ N.1 ≤ 50625) ∧ (0 ≤ N.2.1 ∧ N.2.1 ≤ 50625) ∧ wr N.1 = N.1 ∧ wr N.2.1 = N.2.1 ∧ (0 < N.1 → N.2.2.2 ≠ none) := by
  obtain ⟨a, b, c⟩ := fd_len so l (0, 0, 5, none)
  rw [← hN] at a b c
  have a' : N.1 = 0 + (l.length : Int) := a
  have b' : (0 : Int) ≤ N.2.1 := b
  have c' : N.2.1 ≤ 0 + (l.length : Int) := c
  refine ⟨by omega, by omega, by unfold wr; omega, by unfold wr; omega, fun h => ?_⟩
  cases l with
  | nil => have : ((([] : List (List Int)).length) : Int) = 0 := rfl; omega
  | cons T l =>
    rw [hN]
    exact fd_sm so l _ (on_ne none T)
theorem tl_inj {f g : Int → Int} : ∀ (n : Nat) (i : Int), tl f i n = tl g i n → ∀ k, i ≤ k → k < i + n → f k = g k := by
  intro n
  induction n with
  | zero => intro i _ k a b; omega
  | succ n ih =>
    intro i h k a b
    have h' : f i :: tl f (i + 1) n = g i :: tl g (i + 1) n := h
    injection h' with h1 h2
    by_cases c : k = i
    · rw [c]; exact h1
    · exact ih (i + 1) h2 k (by omega) (by omega)
theorem best_al {N : Ntt} {v u : Mem} (h1 : NtC N v) (h2 : NtR N u) : v 14 3 = u 137 35 ∧ (-1 ≤ v 14 3 ∧ v 14 3 ≤ 4) ∧ ∀ k, 0 ≤ k → k < v 14 3 → v 15 k = u 151 k := by
  obtain ⟨-, -, -, a⟩ := h1
  obtain ⟨-, -, -, b⟩ := h2
  rcases a with ⟨a1, a2⟩ | ⟨B, a1, a2, a3⟩
  · rcases b with ⟨b1, b2, b3, b4⟩ | ⟨B, b1, -⟩
    · exact ⟨by omega, by omega, fun k x y => by omega⟩
    · rw [a1] at b1; cases b1
  · rcases b with ⟨b1, -⟩ | ⟨B', b1, b2, b3, b4⟩
    · rw [a1] at b1; cases b1
    · rw [a1] at b1
      injection b1 with e
      rw [← e, a3] at b4
      have el := congrArg List.length b4
      rw [tl_len, tl_len] at el
      have e2 : v 14 3 = u 137 35 := by omega
      refine ⟨e2, by omega, fun k x y => ?_⟩
      rw [← e2] at b4
      exact tl_inj _ 0 b4 k x (by omega)
theorem least_al {N : Ntt} {u : Mem} (h2 : NtR N u) (hn : N.2.2.2 ≠ none) : u 137 36 = N.2.2.1 := by
  obtain ⟨-, -, -, b⟩ := h2
  rcases b with ⟨b1, -⟩ | ⟨B', b1, b2, b3, b4⟩
  · exact absurd b1 hn
  · exact b2
theorem inv_an {s v t u : Mem} (p : Int) (hi : Inv s) (hv : Fgs s v) (ht : t = mset v 0 0 p) (hu : Fan t u) : Inv (mset u 137 2 p) := by
  subst ht
  refine inv_scr p hi ?_ ?_
  · intro c i h
    unfold Rv at h
    rw [hu c i (by omega) (by omega), mset_ne (by omega), hv c i (by omega)]
  · rw [hu _ _ (by omega) (by omega), mset_eq rfl rfl]
theorem ak_answers (d : Nat) (n : Int) : Ak (d + 30) 138 320 [n] := by
  apply ak_of; intro s hi
  have hc := inv_c hi
  have hr := inv_rc hi
  have pg := q_problemOfGuess (d + 28) n 4 s (by omega)
  by_cases c1 : 0 ≤ n ∧ n ≤ 4
  · rw [if_pos c1] at pg
    by_cases c6 : s 37 6 = 1
    · rw [if_pos c6] at pg
      obtain ⟨hK, hR⟩ := ka_of hi c6
      apply c_M_answers
      simp (disch := first | assumption | omega) only [rn, wk, al, wr_e, td_e, tm_e, mset_eq, mset_ne, if_pos, if_neg, Int.reduceAdd, Int.reduceSub, Int.reduceMul, Int.reduceNeg, Int.reduceLT, Int.reduceLE, Int.reduceEq, Int.cast_ofNat_Int, eq_self, and_true, true_and, ite_self, true_or, or_true, false_or, or_false, and_false, false_and, not_true_eq_false, not_false_eq_true, if_true, if_false, e_M_answers_0, e_M_answers_17, pg]
      refine EV_call (CV_mono (q_findAnswers (d + 21) (win s 37) s (KA_VB hK) (fun _ _ _ => rfl) hK.2.2.2.2.2.2 n (-1) c1) ?_)
      rintro r v ⟨v1, l, hl, hll, v2⟩
      obtain ⟨N, hN⟩ : ∃ N, N = l.foldl (nt (-1)) (0, 0, 5, none) := ⟨_, rfl⟩
      obtain ⟨o1, o2, o3, o4, o5⟩ := fd_ok (-1) l hll N hN
      rw [← hN] at v2
      have m0 := v2.1
      simp (disch := first | assumption | omega) only [rn, wk, al, wr_e, td_e, tm_e, mset_eq, mset_ne, if_pos, if_neg, Int.reduceAdd, Int.reduceSub, Int.reduceMul, Int.reduceNeg, Int.reduceLT, Int.reduceLE, Int.reduceEq, Int.cast_ofNat_Int, eq_self, and_true, true_and, ite_self, true_or, or_true, false_or, or_false, and_false, false_and, not_true_eq_false, not_false_eq_true, if_true, if_false, q_pass, m0]
      have e138 : mset v 0 0 0 138 = s 138 := by rw [mset_nc (by omega)]; funext i; exact v1 _ _ (by omega)
      have g6 : v 138 6 = s 37 6 := by rw [v1 _ _ (by omega)]; omega
      apply c_R_answers
      simp (disch := first | assumption | omega) only [rn, wk, al, wr_e, td_e, tm_e, mset_eq, mset_ne, if_pos, if_neg, Int.reduceAdd, Int.reduceSub, Int.reduceMul, Int.reduceNeg, Int.reduceLT, Int.reduceLE, Int.reduceEq, Int.cast_ofNat_Int, eq_self, and_true, true_and, ite_self, true_or, or_true, false_or, or_false, and_false, false_and, not_true_eq_false, not_false_eq_true, if_true, if_false, e_R_answers_0, e_R_answers_18, e_R_answers_35, g6, q_isFrom]
      refine EV_call (CV_mono (q_lays2 (d + 22) (win s 37) _ hK (KR_congr e138 hR) n (-1) c1 l hl) ?_)
      rintro r' u ⟨u1, hu⟩
      rw [← hN] at hu
      have m1 := hu.1
      rw [o3] at m1
      simp (disch := first | assumption | omega) only [rn, wk, al, wr_e, td_e, tm_e, mset_eq, mset_ne, if_pos, if_neg, Int.reduceAdd, Int.reduceSub, Int.reduceMul, Int.reduceNeg, Int.reduceLT, Int.reduceLE, Int.reduceEq, Int.cast_ofNat_Int, eq_self, and_true, true_and, ite_self, true_or, or_true, false_or, or_false, and_false, false_and, not_true_eq_false, not_false_eq_true, if_true, if_false, e_R_answers_0, e_R_answers_18, e_R_answers_35, q_gives, m1]
      exact inv_an 0 hi v1 rfl u1
    · rw [if_neg c6] at pg
      apply c_M_answers
      simp (disch := first | assumption | omega) only [rn, wk, al, wr_e, td_e, tm_e, mset_eq, mset_ne, if_pos, if_neg, Int.reduceAdd, Int.reduceSub, Int.reduceMul, Int.reduceNeg, Int.reduceLT, Int.reduceLE, Int.reduceEq, Int.cast_ofNat_Int, eq_self, and_true, true_and, ite_self, true_or, or_true, false_or, or_false, and_false, false_and, not_true_eq_false, not_false_eq_true, if_true, if_false, e_M_answers_0, e_M_answers_17, pg, q_fail]
      apply c_R_answers
      simp (disch := first | assumption | omega) only [rn, wk, al, wr_e, td_e, tm_e, mset_eq, mset_ne, if_pos, if_neg, Int.reduceAdd, Int.reduceSub, Int.reduceMul, Int.reduceNeg, Int.reduceLT, Int.reduceLE, Int.reduceEq, Int.cast_ofNat_Int, eq_self, and_true, true_and, ite_self, true_or, or_true, false_or, or_false, and_false, false_and, not_true_eq_false, not_false_eq_true, if_true, if_false, e_R_answers_0, e_R_answers_18, e_R_answers_35, q_isFrom, q_refuse]
      exact inv_st 6 hi
  · rw [if_neg c1] at pg
    have q := q_isFrom (d + 28) n 0 4 (mset s 0 0 1)
    rw [if_neg c1] at q
    apply c_M_answers
    simp (disch := first | assumption | omega) only [rn, wk, al, wr_e, td_e, tm_e, mset_eq, mset_ne, if_pos, if_neg, Int.reduceAdd, Int.reduceSub, Int.reduceMul, Int.reduceNeg, Int.reduceLT, Int.reduceLE, Int.reduceEq, Int.cast_ofNat_Int, eq_self, and_true, true_and, ite_self, true_or, or_true, false_or, or_false, and_false, false_and, not_true_eq_false, not_false_eq_true, if_true, if_false, e_M_answers_0, e_M_answers_17, pg, q_fail]
    apply c_R_answers
    simp (disch := first | assumption | omega) only [rn, wk, al, wr_e, td_e, tm_e, mset_eq, mset_ne, if_pos, if_neg, Int.reduceAdd, Int.reduceSub, Int.reduceMul, Int.reduceNeg, Int.reduceLT, Int.reduceLE, Int.reduceEq, Int.cast_ofNat_Int, eq_self, and_true, true_and, ite_self, true_or, or_true, false_or, or_false, and_false, false_and, not_true_eq_false, not_false_eq_true, if_true, if_false, e_R_answers_0, e_R_answers_18, e_R_answers_35, q, q_refuse]
    exact inv_st 1 hi
theorem ak_fewest (d : Nat) : Ak (d + 30) 154 330 [] := by
  apply ak_of; intro s hi
  have hc := inv_c hi
  have hr := inv_rc hi
  by_cases c6 : s 37 6 = 1
  · obtain ⟨hK, hR⟩ := ka_of hi c6
    apply c_M_fewest
    simp (disch := first | assumption | omega) only [rn, wk, al, wr_e, td_e, tm_e, mset_eq, mset_ne, if_pos, if_neg, Int.reduceAdd, Int.reduceSub, Int.reduceMul, Int.reduceNeg, Int.reduceLT, Int.reduceLE, Int.reduceEq, Int.cast_ofNat_Int, eq_self, and_true, true_and, ite_self, true_or, or_true, false_or, or_false, and_false, false_and, not_true_eq_false, not_false_eq_true, if_true, if_false, e_M_fewest_0, e_M_fewest_17, e_M_fewest_54, e_M_fewest_60, c6]
    refine EV_call (CV_mono (q_findAnswers (d + 21) (win s 37) s (KA_VB hK) (fun _ _ _ => rfl) hK.2.2.2.2.2.2 4 (-1) (by omega)) ?_)
    rintro r v ⟨v1, l, hl, hll, v2⟩
    obtain ⟨N, hN⟩ : ∃ N, N = l.foldl (nt (-1)) (0, 0, 5, none) := ⟨_, rfl⟩
    obtain ⟨o1, o2, o3, o4, o5⟩ := fd_ok (-1) l hll N hN
    rw [← hN] at v2
    have m0 := v2.1
    have m2 := v2.2.2.1
    have e138 : ∀ p, mset v 0 0 p 138 = s 138 := fun p => by rw [mset_nc (by omega)]; funext i; exact v1 _ _ (by omega)
    have g6 : v 138 6 = s 37 6 := by rw [v1 _ _ (by omega)]; omega
    by_cases cm : 0 < N.1
    · simp (disch := first | assumption | omega) only [rn, wk, al, wr_e, td_e, tm_e, mset_eq, mset_ne, if_pos, if_neg, Int.reduceAdd, Int.reduceSub, Int.reduceMul, Int.reduceNeg, Int.reduceLT, Int.reduceLE, Int.reduceEq, Int.cast_ofNat_Int, eq_self, and_true, true_and, ite_self, true_or, or_true, false_or, or_false, and_false, false_and, not_true_eq_false, not_false_eq_true, if_true, if_false, e_M_fewest_0, e_M_fewest_17, e_M_fewest_54, e_M_fewest_60, q_pass, m0, m2]
      apply c_R_fewest
      simp (disch := first | assumption | omega) only [rn, wk, al, wr_e, td_e, tm_e, mset_eq, mset_ne, if_pos, if_neg, Int.reduceAdd, Int.reduceSub, Int.reduceMul, Int.reduceNeg, Int.reduceLT, Int.reduceLE, Int.reduceEq, Int.cast_ofNat_Int, eq_self, and_true, true_and, ite_self, true_or, or_true, false_or, or_false, and_false, false_and, not_true_eq_false, not_false_eq_true, if_true, if_false, e_R_fewest_0, e_R_fewest_17, e_R_fewest_39, e_R_fewest_47, g6, c6]
      refine EV_call (CV_mono (q_lays2 (d + 22) (win s 37) _ hK (KR_congr (e138 _) hR) 4 (-1) (by omega) l hl) ?_)
      rintro r' u ⟨u1, hu⟩
      rw [← hN] at hu
      have m1 := hu.1
      rw [o3] at m1
      have m3 := least_al hu (o5 cm)
      simp (disch := first | assumption | omega) only [rn, wk, al, wr_e, td_e, tm_e, mset_eq, mset_ne, if_pos, if_neg, Int.reduceAdd, Int.reduceSub, Int.reduceMul, Int.reduceNeg, Int.reduceLT, Int.reduceLE, Int.reduceEq, Int.cast_ofNat_Int, eq_self, and_true, true_and, ite_self, true_or, or_true, false_or, or_false, and_false, false_and, not_true_eq_false, not_false_eq_true, if_true, if_false, e_R_fewest_0, e_R_fewest_17, e_R_fewest_39, e_R_fewest_47, q_gives, m1, m3]
      exact inv_an 0 hi v1 rfl u1
    · simp (disch := first | assumption | omega) only [rn, wk, al, wr_e, td_e, tm_e, mset_eq, mset_ne, if_pos, if_neg, Int.reduceAdd, Int.reduceSub, Int.reduceMul, Int.reduceNeg, Int.reduceLT, Int.reduceLE, Int.reduceEq, Int.cast_ofNat_Int, eq_self, and_true, true_and, ite_self, true_or, or_true, false_or, or_false, and_false, false_and, not_true_eq_false, not_false_eq_true, if_true, if_false, e_M_fewest_0, e_M_fewest_17, e_M_fewest_54, e_M_fewest_60, q_fail, m0]
      apply c_R_fewest
      simp (disch := first | assumption | omega) only [rn, wk, al, wr_e, td_e, tm_e, mset_eq, mset_ne, if_pos, if_neg, Int.reduceAdd, Int.reduceSub, Int.reduceMul, Int.reduceNeg, Int.reduceLT, Int.reduceLE, Int.reduceEq, Int.cast_ofNat_Int, eq_self, and_true, true_and, ite_self, true_or, or_true, false_or, or_false, and_false, false_and, not_true_eq_false, not_false_eq_true, if_true, if_false, e_R_fewest_0, e_R_fewest_17, e_R_fewest_39, e_R_fewest_47, g6, c6]
      refine EV_call (CV_mono (q_lays2 (d + 22) (win s 37) _ hK (KR_congr (e138 _) hR) 4 (-1) (by omega) l hl) ?_)
      rintro r' u ⟨u1, hu⟩
      rw [← hN] at hu
      have m1 := hu.1
      rw [o3] at m1
      have e0 : N.1 = 0 := by omega
      rw [e0] at m1
      simp (disch := first | assumption | omega) only [rn, wk, al, wr_e, td_e, tm_e, mset_eq, mset_ne, if_pos, if_neg, Int.reduceAdd, Int.reduceSub, Int.reduceMul, Int.reduceNeg, Int.reduceLT, Int.reduceLE, Int.reduceEq, Int.cast_ofNat_Int, eq_self, and_true, true_and, ite_self, true_or, or_true, false_or, or_false, and_false, false_and, not_true_eq_false, not_false_eq_true, if_true, if_false, e_R_fewest_0, e_R_fewest_17, e_R_fewest_39, e_R_fewest_47, q_refuse, m1]
      exact inv_an 6 hi v1 rfl u1
  · apply c_M_fewest
    simp (disch := first | assumption | omega) only [rn, wk, al, wr_e, td_e, tm_e, mset_eq, mset_ne, if_pos, if_neg, Int.reduceAdd, Int.reduceSub, Int.reduceMul, Int.reduceNeg, Int.reduceLT, Int.reduceLE, Int.reduceEq, Int.cast_ofNat_Int, eq_self, and_true, true_and, ite_self, true_or, or_true, false_or, or_false, and_false, false_and, not_true_eq_false, not_false_eq_true, if_true, if_false, e_M_fewest_0, e_M_fewest_17, e_M_fewest_54, e_M_fewest_60, q_fail]
    apply c_R_fewest
    simp (disch := first | assumption | omega) only [rn, wk, al, wr_e, td_e, tm_e, mset_eq, mset_ne, if_pos, if_neg, Int.reduceAdd, Int.reduceSub, Int.reduceMul, Int.reduceNeg, Int.reduceLT, Int.reduceLE, Int.reduceEq, Int.cast_ofNat_Int, eq_self, and_true, true_and, ite_self, true_or, or_true, false_or, or_false, and_false, false_and, not_true_eq_false, not_false_eq_true, if_true, if_false, e_R_fewest_0, e_R_fewest_17, e_R_fewest_39, e_R_fewest_47, q_refuse]
    exact inv_st 6 hi
theorem ak_answerAt (d : Nat) (n k : Int) : Ak (d + 30) 152 328 [n, k] := by
  apply ak_of; intro s hi
  have hc := inv_c hi
  have hr := inv_rc hi
  have pg := q_problemOfGuess (d + 28) n 4 s (by omega)
  by_cases ck : 0 ≤ k
  · by_cases c1 : 0 ≤ n ∧ n ≤ 4
    · rw [if_pos c1] at pg
      by_cases c6 : s 37 6 = 1
      · rw [if_pos c6] at pg
        obtain ⟨hK, hR⟩ := ka_of hi c6
        apply c_M_answerAt
        simp (disch := first | assumption | omega) only [rn, wk, al, wr_e, td_e, tm_e, mset_eq, mset_ne, if_pos, if_neg, Int.reduceAdd, Int.reduceSub, Int.reduceMul, Int.reduceNeg, Int.reduceLT, Int.reduceLE, Int.reduceEq, Int.cast_ofNat_Int, eq_self, and_true, true_and, ite_self, true_or, or_true, false_or, or_false, and_false, false_and, not_true_eq_false, not_false_eq_true, if_true, if_false, e_M_answerAt_0, e_M_answerAt_8, e_M_answerAt_14, e_M_answerAt_25, e_M_answerAt_65, e_M_answerAt_71, pg]
        refine EV_call (CV_mono (q_findAnswers (d + 21) (win s 37) s (KA_VB hK) (fun _ _ _ => rfl) hK.2.2.2.2.2.2 n (-1) c1) ?_)
        rintro r v ⟨v1, l, hl, hll, v2⟩
        obtain ⟨N, hN⟩ : ∃ N, N = l.foldl (nt (-1)) (0, 0, 5, none) := ⟨_, rfl⟩
        rw [← hN] at v2
        have e138 : ∀ p, mset v 0 0 p 138 = s 138 := fun p => by rw [mset_nc (by omega)]; funext i; exact v1 _ _ (by omega)
        have g6 : v 138 6 = s 37 6 := by rw [v1 _ _ (by omega)]; omega
        have vb : -1 ≤ v 14 3 ∧ v 14 3 ≤ 4 := by
          rcases v2.2.2.2 with ⟨-, a⟩ | ⟨B, -, a, -⟩ <;> omega
        by_cases cs : k < v 14 3
        · simp (disch := first | assumption | omega) only [rn, wk, al, wr_e, td_e, tm_e, mset_eq, mset_ne, if_pos, if_neg, Int.reduceAdd, Int.reduceSub, Int.reduceMul, Int.reduceNeg, Int.reduceLT, Int.reduceLE, Int.reduceEq, Int.cast_ofNat_Int, eq_self, and_true, true_and, ite_self, true_or, or_true, false_or, or_false, and_false, false_and, not_true_eq_false, not_false_eq_true, if_true, if_false, e_M_answerAt_0, e_M_answerAt_8, e_M_answerAt_14, e_M_answerAt_25, e_M_answerAt_65, e_M_answerAt_71, q_pass]
          apply c_R_answerAt
          simp (disch := first | assumption | omega) only [rn, wk, al, wr_e, td_e, tm_e, mset_eq, mset_ne, if_pos, if_neg, Int.reduceAdd, Int.reduceSub, Int.reduceMul, Int.reduceNeg, Int.reduceLT, Int.reduceLE, Int.reduceEq, Int.cast_ofNat_Int, eq_self, and_true, true_and, ite_self, true_or, or_true, false_or, or_false, and_false, false_and, not_true_eq_false, not_false_eq_true, if_true, if_false, e_R_answerAt_0, e_R_answerAt_16, e_R_answerAt_22, e_R_answerAt_39, e_R_answerAt_62, e_R_answerAt_72, g6, q_isFrom]
          refine EV_call (CV_mono (q_lays2 (d + 22) (win s 37) _ hK (KR_congr (e138 _) hR) n (-1) c1 l hl) ?_)
          rintro r' u ⟨u1, hu⟩
          rw [← hN] at hu
          obtain ⟨b1, b2, b3⟩ := best_al v2 hu
          have b4 := b3 k ck cs
          simp (disch := first | assumption | omega) only [rn, wk, al, wr_e, td_e, tm_e, mset_eq, mset_ne, if_pos, if_neg, Int.reduceAdd, Int.reduceSub, Int.reduceMul, Int.reduceNeg, Int.reduceLT, Int.reduceLE, Int.reduceEq, Int.cast_ofNat_Int, eq_self, and_true, true_and, ite_self, true_or, or_true, false_or, or_false, and_false, false_and, not_true_eq_false, not_false_eq_true, if_true, if_false, e_R_answerAt_0, e_R_answerAt_16, e_R_answerAt_22, e_R_answerAt_39, e_R_answerAt_62, e_R_answerAt_72, q_gives, ← b1, ← b4]
          exact inv_an 0 hi v1 rfl u1
        · simp (disch := first | assumption | omega) only [rn, wk, al, wr_e, td_e, tm_e, mset_eq, mset_ne, if_pos, if_neg, Int.reduceAdd, Int.reduceSub, Int.reduceMul, Int.reduceNeg, Int.reduceLT, Int.reduceLE, Int.reduceEq, Int.cast_ofNat_Int, eq_self, and_true, true_and, ite_self, true_or, or_true, false_or, or_false, and_false, false_and, not_true_eq_false, not_false_eq_true, if_true, if_false, e_M_answerAt_0, e_M_answerAt_8, e_M_answerAt_14, e_M_answerAt_25, e_M_answerAt_65, e_M_answerAt_71, q_fail]
          apply c_R_answerAt
          simp (disch := first | assumption | omega) only [rn, wk, al, wr_e, td_e, tm_e, mset_eq, mset_ne, if_pos, if_neg, Int.reduceAdd, Int.reduceSub, Int.reduceMul, Int.reduceNeg, Int.reduceLT, Int.reduceLE, Int.reduceEq, Int.cast_ofNat_Int, eq_self, and_true, true_and, ite_self, true_or, or_true, false_or, or_false, and_false, false_and, not_true_eq_false, not_false_eq_true, if_true, if_false, e_R_answerAt_0, e_R_answerAt_16, e_R_answerAt_22, e_R_answerAt_39, e_R_answerAt_62, e_R_answerAt_72, g6, q_isFrom]
          refine EV_call (CV_mono (q_lays2 (d + 22) (win s 37) _ hK (KR_congr (e138 _) hR) n (-1) c1 l hl) ?_)
          rintro r' u ⟨u1, hu⟩
          rw [← hN] at hu
          obtain ⟨b1, b2, b3⟩ := best_al v2 hu
          simp (disch := first | assumption | omega) only [rn, wk, al, wr_e, td_e, tm_e, mset_eq, mset_ne, if_pos, if_neg, Int.reduceAdd, Int.reduceSub, Int.reduceMul, Int.reduceNeg, Int.reduceLT, Int.reduceLE, Int.reduceEq, Int.cast_ofNat_Int, eq_self, and_true, true_and, ite_self, true_or, or_true, false_or, or_false, and_false, false_and, not_true_eq_false, not_false_eq_true, if_true, if_false, e_R_answerAt_0, e_R_answerAt_16, e_R_answerAt_22, e_R_answerAt_39, e_R_answerAt_62, e_R_answerAt_72, q_refuse, ← b1]
          exact inv_an 6 hi v1 rfl u1
      · rw [if_neg c6] at pg
        apply c_M_answerAt
        simp (disch := first | assumption | omega) only [rn, wk, al, wr_e, td_e, tm_e, mset_eq, mset_ne, if_pos, if_neg, Int.reduceAdd, Int.reduceSub, Int.reduceMul, Int.reduceNeg, Int.reduceLT, Int.reduceLE, Int.reduceEq, Int.cast_ofNat_Int, eq_self, and_true, true_and, ite_self, true_or, or_true, false_or, or_false, and_false, false_and, not_true_eq_false, not_false_eq_true, if_true, if_false, e_M_answerAt_0, e_M_answerAt_8, e_M_answerAt_14, e_M_answerAt_25, e_M_answerAt_65, e_M_answerAt_71, pg, q_fail]
        apply c_R_answerAt
        simp (disch := first | assumption | omega) only [rn, wk, al, wr_e, td_e, tm_e, mset_eq, mset_ne, if_pos, if_neg, Int.reduceAdd, Int.reduceSub, Int.reduceMul, Int.reduceNeg, Int.reduceLT, Int.reduceLE, Int.reduceEq, Int.cast_ofNat_Int, eq_self, and_true, true_and, ite_self, true_or, or_true, false_or, or_false, and_false, false_and, not_true_eq_false, not_false_eq_true, if_true, if_false, e_R_answerAt_0, e_R_answerAt_16, e_R_answerAt_22, e_R_answerAt_39, e_R_answerAt_62, e_R_answerAt_72, q_isFrom, q_refuse]
        exact inv_st 6 hi
    · rw [if_neg c1] at pg
      have q := q_isFrom (d + 28) n 0 4 (mset s 0 0 1)
      rw [if_neg c1] at q
      apply c_M_answerAt
      simp (disch := first | assumption | omega) only [rn, wk, al, wr_e, td_e, tm_e, mset_eq, mset_ne, if_pos, if_neg, Int.reduceAdd, Int.reduceSub, Int.reduceMul, Int.reduceNeg, Int.reduceLT, Int.reduceLE, Int.reduceEq, Int.cast_ofNat_Int, eq_self, and_true, true_and, ite_self, true_or, or_true, false_or, or_false, and_false, false_and, not_true_eq_false, not_false_eq_true, if_true, if_false, e_M_answerAt_0, e_M_answerAt_8, e_M_answerAt_14, e_M_answerAt_25, e_M_answerAt_65, e_M_answerAt_71, pg, q_fail]
      apply c_R_answerAt
      simp (disch := first | assumption | omega) only [rn, wk, al, wr_e, td_e, tm_e, mset_eq, mset_ne, if_pos, if_neg, Int.reduceAdd, Int.reduceSub, Int.reduceMul, Int.reduceNeg, Int.reduceLT, Int.reduceLE, Int.reduceEq, Int.cast_ofNat_Int, eq_self, and_true, true_and, ite_self, true_or, or_true, false_or, or_false, and_false, false_and, not_true_eq_false, not_false_eq_true, if_true, if_false, e_R_answerAt_0, e_R_answerAt_16, e_R_answerAt_22, e_R_answerAt_39, e_R_answerAt_62, e_R_answerAt_72, q, q_refuse]
      exact inv_st 1 hi
  · have hm : CV (d + 30) 328 [137, n, k] (mset s 0 0 1) fun r' u => r' = -1 ∧ Inv u := by
      apply c_R_answerAt
      by_cases c1 : 0 ≤ n ∧ n ≤ 4
      · simp (disch := first | assumption | omega) only [rn, wk, al, wr_e, td_e, tm_e, mset_eq, mset_ne, if_pos, if_neg, Int.reduceAdd, Int.reduceSub, Int.reduceMul, Int.reduceNeg, Int.reduceLT, Int.reduceLE, Int.reduceEq, Int.cast_ofNat_Int, eq_self, and_true, true_and, ite_self, true_or, or_true, false_or, or_false, and_false, false_and, not_true_eq_false, not_false_eq_true, if_true, if_false, e_R_answerAt_0, e_R_answerAt_16, e_R_answerAt_22, e_R_answerAt_39, e_R_answerAt_62, e_R_answerAt_72, q_isFrom, q_refuse]
        exact inv_st 1 hi
      · have q := q_isFrom (d + 28) n 0 4 (mset s 0 0 1)
        rw [if_neg c1] at q
        simp (disch := first | assumption | omega) only [rn, wk, al, wr_e, td_e, tm_e, mset_eq, mset_ne, if_pos, if_neg, Int.reduceAdd, Int.reduceSub, Int.reduceMul, Int.reduceNeg, Int.reduceLT, Int.reduceLE, Int.reduceEq, Int.cast_ofNat_Int, eq_self, and_true, true_and, ite_self, true_or, or_true, false_or, or_false, and_false, false_and, not_true_eq_false, not_false_eq_true, if_true, if_false, e_R_answerAt_0, e_R_answerAt_16, e_R_answerAt_22, e_R_answerAt_39, e_R_answerAt_62, e_R_answerAt_72, q, q_refuse]
        exact inv_st 1 hi
    apply c_M_answerAt
    simp (disch := first | assumption | omega) only [rn, wk, al, wr_e, td_e, tm_e, mset_eq, mset_ne, if_pos, if_neg, Int.reduceAdd, Int.reduceSub, Int.reduceMul, Int.reduceNeg, Int.reduceLT, Int.reduceLE, Int.reduceEq, Int.cast_ofNat_Int, eq_self, and_true, true_and, ite_self, true_or, or_true, false_or, or_false, and_false, false_and, not_true_eq_false, not_false_eq_true, if_true, if_false, e_M_answerAt_0, e_M_answerAt_8, e_M_answerAt_14, e_M_answerAt_25, e_M_answerAt_65, e_M_answerAt_71, q_fail]
    exact hm
theorem ak_with (d : Nat) (n c y b : Int) : Ak (d + 30) 153 329 [n, c, y, b] := by
  apply ak_of; intro s hi
  have hc := inv_c hi
  have hr := inv_rc hi
  have pg := q_problemOfGuess (d + 28) n 4 s (by omega)
  have qh := q_hasCry (d + 28) (h := 37) (by unfold isH; omega) c y s (by omega)
  have hry : ∀ w : Mem, w 138 = s 138 → sem (d + 29) 276 [137, c, y] w = some (if (0 ≤ c ∧ c < s 37 4) ∧ (0 ≤ y ∧ y < s 44 c) then 1 else 0, w) := by
    intro w hw
    have q := q_isCry (d + 27) c y w (by rw [hw]; omega)
    rw [hw] at q
    rw [q]
    by_cases c4 : 0 ≤ c ∧ c < s 37 4
    · have := (inv_rl hi c c4).2.1
      rw [this]
      rw [show s 138 3 = s 37 4 by omega]
    · rw [if_neg (by omega), if_neg (by omega)]
  by_cases cc : (0 ≤ c ∧ c < s 37 4) ∧ (0 ≤ y ∧ y < s 44 c)
  · have qh' : sem (d + 29) 65 [37, c, y] s = some (1, s) := by rw [qh]; exact congrArg (fun z => some (z, s)) (if_pos cc)
    by_cases cb : 0 ≤ b ∧ b ≤ 20
    · by_cases c1 : 0 ≤ n ∧ n ≤ 4
      · rw [if_pos c1] at pg
        by_cases c6 : s 37 6 = 1
        · rw [if_pos c6] at pg
          obtain ⟨hK, hR⟩ := ka_of hi c6
          have y3 : s 44 c ≤ 3 := (hK.2.2.2.1 c cc.1).2.1.2
          have qn := q_callNumber (d + 28) c y b s (by omega) (by omega) cb
          apply c_M_with
          simp (disch := first | assumption | omega) only [rn, wk, al, wr_e, td_e, tm_e, mset_eq, mset_ne, if_pos, if_neg, Int.reduceAdd, Int.reduceSub, Int.reduceMul, Int.reduceNeg, Int.reduceLT, Int.reduceLE, Int.reduceEq, Int.cast_ofNat_Int, eq_self, and_true, true_and, ite_self, true_or, or_true, false_or, or_false, and_false, false_and, not_true_eq_false, not_false_eq_true, if_true, if_false, e_M_with_0, e_M_with_28, e_M_with_29, e_M_with_45, e_M_with_46, e_M_with_60, qh', pg, qn]
          refine EV_call (CV_mono (q_findAnswers (d + 21) (win s 37) s (KA_VB hK) (fun _ _ _ => rfl) hK.2.2.2.2.2.2 n (63 * c + 21 * y + b) c1) ?_)
          rintro r v ⟨v1, l, hl, hll, v2⟩
          obtain ⟨N, hN⟩ : ∃ N, N = l.foldl (nt (63 * c + 21 * y + b)) (0, 0, 5, none) := ⟨_, rfl⟩
          obtain ⟨o1, o2, o3, o4, o5⟩ := fd_ok (63 * c + 21 * y + b) l hll N hN
          rw [← hN] at v2
          have m0 := v2.2.1
          simp (disch := first | assumption | omega) only [rn, wk, al, wr_e, td_e, tm_e, mset_eq, mset_ne, if_pos, if_neg, Int.reduceAdd, Int.reduceSub, Int.reduceMul, Int.reduceNeg, Int.reduceLT, Int.reduceLE, Int.reduceEq, Int.cast_ofNat_Int, eq_self, and_true, true_and, ite_self, true_or, or_true, false_or, or_false, and_false, false_and, not_true_eq_false, not_false_eq_true, if_true, if_false, q_pass, m0]
          have e138 : mset v 0 0 0 138 = s 138 := by rw [mset_nc (by omega)]; funext i; exact v1 _ _ (by omega)
          have g6 : v 138 6 = s 37 6 := by rw [v1 _ _ (by omega)]; omega
          have hy := hry (mset v 0 0 0) e138
          rw [if_pos cc] at hy
          have i1 := q_isFrom (d + 28) n 0 4 (mset v 0 0 0)
          rw [if_pos c1] at i1
          have i2 := q_isFrom (d + 28) b 0 20 (mset v 0 0 0)
          rw [if_pos cb] at i2
          apply c_R_with
          simp (disch := first | assumption | omega) only [rn, wk, al, wr_e, td_e, tm_e, mset_eq, mset_ne, if_pos, if_neg, Int.reduceAdd, Int.reduceSub, Int.reduceMul, Int.reduceNeg, Int.reduceLT, Int.reduceLE, Int.reduceEq, Int.cast_ofNat_Int, eq_self, and_true, true_and, ite_self, true_or, or_true, false_or, or_false, and_false, false_and, not_true_eq_false, not_false_eq_true, if_true, if_false, e_R_with_0, e_R_with_34, e_R_with_40, e_R_with_57, i1, hy, i2, g6]
          refine EV_call (CV_mono (q_lays2 (d + 22) (win s 37) _ hK (KR_congr e138 hR) n (63 * c + 21 * y + b) c1 l hl) ?_)
          rintro r' u ⟨u1, hu⟩
          rw [← hN] at hu
          have m1 := hu.2.1
          rw [o4] at m1
          simp (disch := first | assumption | omega) only [rn, wk, al, wr_e, td_e, tm_e, mset_eq, mset_ne, if_pos, if_neg, Int.reduceAdd, Int.reduceSub, Int.reduceMul, Int.reduceNeg, Int.reduceLT, Int.reduceLE, Int.reduceEq, Int.cast_ofNat_Int, eq_self, and_true, true_and, ite_self, true_or, or_true, false_or, or_false, and_false, false_and, not_true_eq_false, not_false_eq_true, if_true, if_false, e_R_with_0, e_R_with_34, e_R_with_40, e_R_with_57, q_gives, m1]
          exact inv_an 0 hi v1 rfl u1
        · rw [if_neg c6] at pg
          have hy := hry (mset s 0 0 6) (by rw [mset_nc (by omega)])
          rw [if_pos cc] at hy
          have i1 := q_isFrom (d + 28) n 0 4 (mset s 0 0 6)
          rw [if_pos c1] at i1
          have i2 := q_isFrom (d + 28) b 0 20 (mset s 0 0 6)
          rw [if_pos cb] at i2
          apply c_M_with
          simp (disch := first | assumption | omega) only [rn, wk, al, wr_e, td_e, tm_e, mset_eq, mset_ne, if_pos, if_neg, Int.reduceAdd, Int.reduceSub, Int.reduceMul, Int.reduceNeg, Int.reduceLT, Int.reduceLE, Int.reduceEq, Int.cast_ofNat_Int, eq_self, and_true, true_and, ite_self, true_or, or_true, false_or, or_false, and_false, false_and, not_true_eq_false, not_false_eq_true, if_true, if_false, e_M_with_0, e_M_with_28, e_M_with_29, e_M_with_45, e_M_with_46, e_M_with_60, qh', pg, q_fail]
          apply c_R_with
          simp (disch := first | assumption | omega) only [rn, wk, al, wr_e, td_e, tm_e, mset_eq, mset_ne, if_pos, if_neg, Int.reduceAdd, Int.reduceSub, Int.reduceMul, Int.reduceNeg, Int.reduceLT, Int.reduceLE, Int.reduceEq, Int.cast_ofNat_Int, eq_self, and_true, true_and, ite_self, true_or, or_true, false_or, or_false, and_false, false_and, not_true_eq_false, not_false_eq_true, if_true, if_false, e_R_with_0, e_R_with_34, e_R_with_40, e_R_with_57, i1, hy, i2, q_refuse]
          exact inv_st 6 hi
      · rw [if_neg c1] at pg
        have i1 := q_isFrom (d + 28) n 0 4 (mset s 0 0 1)
        rw [if_neg c1] at i1
        apply c_M_with
        simp (disch := first | assumption | omega) only [rn, wk, al, wr_e, td_e, tm_e, mset_eq, mset_ne, if_pos, if_neg, Int.reduceAdd, Int.reduceSub, Int.reduceMul, Int.reduceNeg, Int.reduceLT, Int.reduceLE, Int.reduceEq, Int.cast_ofNat_Int, eq_self, and_true, true_and, ite_self, true_or, or_true, false_or, or_false, and_false, false_and, not_true_eq_false, not_false_eq_true, if_true, if_false, e_M_with_0, e_M_with_28, e_M_with_29, e_M_with_45, e_M_with_46, e_M_with_60, qh', pg, q_fail]
        apply c_R_with
        simp (disch := first | assumption | omega) only [rn, wk, al, wr_e, td_e, tm_e, mset_eq, mset_ne, if_pos, if_neg, Int.reduceAdd, Int.reduceSub, Int.reduceMul, Int.reduceNeg, Int.reduceLT, Int.reduceLE, Int.reduceEq, Int.cast_ofNat_Int, eq_self, and_true, true_and, ite_self, true_or, or_true, false_or, or_false, and_false, false_and, not_true_eq_false, not_false_eq_true, if_true, if_false, e_R_with_0, e_R_with_34, e_R_with_40, e_R_with_57, i1, q_refuse]
        exact inv_st 1 hi
    · have hm : CV (d + 30) 329 [137, n, c, y, b] (mset s 0 0 1) fun r' u => r' = -1 ∧ Inv u := by
        have hy := hry (mset s 0 0 1) (by rw [mset_nc (by omega)])
        rw [if_pos cc] at hy
        have i1 := q_isFrom (d + 28) n 0 4 (mset s 0 0 1)
        have i2 := q_isFrom (d + 28) b 0 20 (mset s 0 0 1)
        rw [if_neg cb] at i2
        apply c_R_with
        by_cases c1 : 0 ≤ n ∧ n ≤ 4
        · rw [if_pos c1] at i1
          simp (disch := first | assumption | omega) only [rn, wk, al, wr_e, td_e, tm_e, mset_eq, mset_ne, if_pos, if_neg, Int.reduceAdd, Int.reduceSub, Int.reduceMul, Int.reduceNeg, Int.reduceLT, Int.reduceLE, Int.reduceEq, Int.cast_ofNat_Int, eq_self, and_true, true_and, ite_self, true_or, or_true, false_or, or_false, and_false, false_and, not_true_eq_false, not_false_eq_true, if_true, if_false, e_R_with_0, e_R_with_34, e_R_with_40, e_R_with_57, i1, hy, i2, q_refuse]
          exact inv_st 1 hi
        · rw [if_neg c1] at i1
          simp (disch := first | assumption | omega) only [rn, wk, al, wr_e, td_e, tm_e, mset_eq, mset_ne, if_pos, if_neg, Int.reduceAdd, Int.reduceSub, Int.reduceMul, Int.reduceNeg, Int.reduceLT, Int.reduceLE, Int.reduceEq, Int.cast_ofNat_Int, eq_self, and_true, true_and, ite_self, true_or, or_true, false_or, or_false, and_false, false_and, not_true_eq_false, not_false_eq_true, if_true, if_false, e_R_with_0, e_R_with_34, e_R_with_40, e_R_with_57, i1, q_refuse]
          exact inv_st 1 hi
      apply c_M_with
      by_cases cb0 : 0 ≤ b
      · simp (disch := first | assumption | omega) only [rn, wk, al, wr_e, td_e, tm_e, mset_eq, mset_ne, if_pos, if_neg, Int.reduceAdd, Int.reduceSub, Int.reduceMul, Int.reduceNeg, Int.reduceLT, Int.reduceLE, Int.reduceEq, Int.cast_ofNat_Int, eq_self, and_true, true_and, ite_self, true_or, or_true, false_or, or_false, and_false, false_and, not_true_eq_false, not_false_eq_true, if_true, if_false, e_M_with_0, e_M_with_28, e_M_with_29, e_M_with_45, e_M_with_46, e_M_with_60, qh', q_fail]
        exact hm
      · simp (disch := first | assumption | omega) only [rn, wk, al, wr_e, td_e, tm_e, mset_eq, mset_ne, if_pos, if_neg, Int.reduceAdd, Int.reduceSub, Int.reduceMul, Int.reduceNeg, Int.reduceLT, Int.reduceLE, Int.reduceEq, Int.cast_ofNat_Int, eq_self, and_true, true_and, ite_self, true_or, or_true, false_or, or_false, and_false, false_and, not_true_eq_false, not_false_eq_true, if_true, if_false, e_M_with_0, e_M_with_28, e_M_with_29, e_M_with_45, e_M_with_46, e_M_with_60, qh', q_fail]
        exact hm
  · have qh' : sem (d + 29) 65 [37, c, y] s = some (0, s) := by rw [qh]; exact congrArg (fun z => some (z, s)) (if_neg cc)
    have hm : CV (d + 30) 329 [137, n, c, y, b] (mset s 0 0 1) fun r' u => r' = -1 ∧ Inv u := by
      have hy := hry (mset s 0 0 1) (by rw [mset_nc (by omega)])
      rw [if_neg cc] at hy
      have i1 := q_isFrom (d + 28) n 0 4 (mset s 0 0 1)
      apply c_R_with
      by_cases c1 : 0 ≤ n ∧ n ≤ 4
      · rw [if_pos c1] at i1
        simp (disch := first | assumption | omega) only [rn, wk, al, wr_e, td_e, tm_e, mset_eq, mset_ne, if_pos, if_neg, Int.reduceAdd, Int.reduceSub, Int.reduceMul, Int.reduceNeg, Int.reduceLT, Int.reduceLE, Int.reduceEq, Int.cast_ofNat_Int, eq_self, and_true, true_and, ite_self, true_or, or_true, false_or, or_false, and_false, false_and, not_true_eq_false, not_false_eq_true, if_true, if_false, e_R_with_0, e_R_with_34, e_R_with_40, e_R_with_57, i1, hy, q_refuse]
        exact inv_st 1 hi
      · rw [if_neg c1] at i1
        simp (disch := first | assumption | omega) only [rn, wk, al, wr_e, td_e, tm_e, mset_eq, mset_ne, if_pos, if_neg, Int.reduceAdd, Int.reduceSub, Int.reduceMul, Int.reduceNeg, Int.reduceLT, Int.reduceLE, Int.reduceEq, Int.cast_ofNat_Int, eq_self, and_true, true_and, ite_self, true_or, or_true, false_or, or_false, and_false, false_and, not_true_eq_false, not_false_eq_true, if_true, if_false, e_R_with_0, e_R_with_34, e_R_with_40, e_R_with_57, i1, q_refuse]
        exact inv_st 1 hi
    apply c_M_with
    simp (disch := first | assumption | omega) only [rn, wk, al, wr_e, td_e, tm_e, mset_eq, mset_ne, if_pos, if_neg, Int.reduceAdd, Int.reduceSub, Int.reduceMul, Int.reduceNeg, Int.reduceLT, Int.reduceLE, Int.reduceEq, Int.cast_ofNat_Int, eq_self, and_true, true_and, ite_self, true_or, or_true, false_or, or_false, and_false, false_and, not_true_eq_false, not_false_eq_true, if_true, if_false, e_M_with_0, e_M_with_28, e_M_with_29, e_M_with_45, e_M_with_46, e_M_with_60, qh', q_fail]
    exact hm
