/-! ===== H2: live alike ===== -/
theorem lp_lv43 (d : Nat) (sd : Int) (Q : Int → Mem → Prop) (u : Mem) (K : ∀ w, (∀ c i, c ≠ 154 → w c i = u c i) → (∀ j, 0 ≤ j ∧ j < 5 → w 154 j = u 153 j) → EV d o_R_live 66 [] [137, sd, 5] w Q) : ∀ (n : Nat) (k : Int) (w : Mem), 0 ≤ k → k + n = 5 → (∀ c i, c ≠ 154 → w c i = u c i) → (∀ j, 0 ≤ j ∧ j < k → w 154 j = u 153 j) → EV d o_R_live 43 [] [137, sd, k] w Q := by
  intro n
  induction n with
  | zero =>
    intro k w h0 hk hf h1
    have ek : k = 5 := by omega
    subst ek
    have hx := K w hf h1
    rw [e_R_live_43]
    simp (disch := first | assumption | omega) only [rn, wk, al, wr_e, td_e, tm_e, mset_eq, mset_ne, if_pos, if_neg, Int.reduceAdd, Int.reduceSub, Int.reduceMul, Int.reduceNeg, Int.reduceLT, Int.reduceLE, Int.reduceEq, Int.cast_ofNat_Int, eq_self, and_true, true_and, ite_self, true_or, or_true, false_or, or_false, and_false, false_and, not_true_eq_false, not_false_eq_true, if_true, if_false]
    exact hx
  | succ n ih =>
    intro k w h0 hk hf h1
    have e := hf 153 k (by omega)
    have hx := ih (k + 1) (mset w 154 k (u 153 k)) (by omega) (by omega) (fun c i hc => by rw [mset_ne (by omega)]; exact hf c i hc) (fun j hj => by
      by_cases e : j = k
      · rw [e, mset_eq rfl rfl]
      · rw [mset_ne (by omega)]; exact h1 j (by omega))
    rw [e_R_live_43]
    simp (disch := first | assumption | omega) only [rn, wk, al, wr_e, td_e, tm_e, mset_eq, mset_ne, if_pos, if_neg, Int.reduceAdd, Int.reduceSub, Int.reduceMul, Int.reduceNeg, Int.reduceLT, Int.reduceLE, Int.reduceEq, Int.cast_ofNat_Int, eq_self, and_true, true_and, ite_self, true_or, or_true, false_or, or_false, and_false, false_and, not_true_eq_false, not_false_eq_true, if_true, if_false, e]
    exact hx
theorem inv_t {s : Mem} (hi : Inv s) : (s 49 0 = 0 ∨ s 49 0 = 1) ∧ (s 49 0 = 0 → s 138 7 = -1) ∧ (s 49 0 = 1 → s 138 7 = s 49 2 ∧ 0 ≤ s 49 2 ∧ s 49 2 ≤ 60) := by
  have hr := hi.2.2.2.2.1
  have a : VT (win s 37) := hr.1.2.2.2.2.2.2
  have b : RT (win s 37) (s 138) := hr.2.2.2.2.2.2.2.2
  have a1 : 0 ≤ s 49 0 ∧ s 49 0 ≤ 1 := a.1
  refine ⟨by omega, b.1, fun h => ?_⟩
  have a2 := (a.2 h).1
  have b2 := (b.2 h).1
  exact ⟨b2, a2.1, a2.2⟩
theorem ak_live (d : Nat) (sd : Int) : Ak (d + 30) 195 356 [sd] := by
  apply ak_of; intro s hi
  obtain ⟨t0, t1, t2⟩ := inv_t hi
  by_cases c1 : 0 ≤ sd ∧ sd ≤ 9999
  · rcases t0 with e | e
    · have e7 := t1 e
      apply c_M_live
      simp (disch := first | assumption | omega) only [rn, wk, al, wr_e, td_e, tm_e, mset_eq, mset_ne, if_pos, if_neg, Int.reduceAdd, Int.reduceSub, Int.reduceMul, Int.reduceNeg, Int.reduceLT, Int.reduceLE, Int.reduceEq, Int.cast_ofNat_Int, eq_self, and_true, true_and, ite_self, true_or, or_true, false_or, or_false, and_false, false_and, not_true_eq_false, not_false_eq_true, if_true, if_false, e_M_live_0, e_M_live_11, e_M_live_17, e_M_live_37, e, q_fail]
      apply c_R_live
      simp (disch := first | assumption | omega) only [rn, wk, al, wr_e, td_e, tm_e, mset_eq, mset_ne, if_pos, if_neg, Int.reduceAdd, Int.reduceSub, Int.reduceMul, Int.reduceNeg, Int.reduceLT, Int.reduceLE, Int.reduceEq, Int.cast_ofNat_Int, eq_self, and_true, true_and, ite_self, true_or, or_true, false_or, or_false, and_false, false_and, not_true_eq_false, not_false_eq_true, if_true, if_false, e_R_live_0, e_R_live_18, e_R_live_36, e_R_live_66, q_isFrom, e7, q_refuse]
      exact inv_st 6 hi
    · obtain ⟨e7, b1, b2⟩ := t2 e
      have hu0 : HRu 37 s s := hi.2.2.2.2.1
      apply c_M_live
      simp (disch := first | assumption | omega) only [rn, wk, al, wr_e, td_e, tm_e, mset_eq, mset_ne, if_pos, if_neg, Int.reduceAdd, Int.reduceSub, Int.reduceMul, Int.reduceNeg, Int.reduceLT, Int.reduceLE, Int.reduceEq, Int.cast_ofNat_Int, eq_self, and_true, true_and, ite_self, true_or, or_true, false_or, or_false, and_false, false_and, not_true_eq_false, not_false_eq_true, if_true, if_false, e_M_live_0, e_M_live_11, e_M_live_17, e_M_live_37, e]
      refine EV_call (CV_mono (q_lives2 (d + 21) (d + 18) isH37 s sd ⟨s, hu0⟩ e (by omega)) ?_)
      rintro r0 t ⟨f1, ⟨f2, f3⟩, f4⟩
      have b5 := f3 0 (by omega) (by omega)
      obtain ⟨y, hy⟩ : ∃ y, y = mset (mset (mset (mset (mset (mset (mset t 0 4 1) 1 0 (t 12 1)) 1 1 (t 12 2)) 1 2 (t 12 3)) 1 3 (t 12 4)) 1 4 (t 12 5)) 0 0 0 := ⟨_, rfl⟩
      have yf : ∀ c i, ¬ (c = 0 ∧ (i = 0 ∨ i = 4)) → ¬ (c = 1) → y c i = t c i := fun c i a b => by rw [hy]; simp (disch := omega) only [mset_ne]
      have y1 : ∀ j, 0 ≤ j ∧ j < 5 → y 1 j = t 12 (j + 1) := fun j hj => by
        obtain rfl | rfl | rfl | rfl | rfl : j = 0 ∨ j = 1 ∨ j = 2 ∨ j = 3 ∨ j = 4 := by omega
        all_goals (rw [hy]; simp (disch := omega) only [mset_ne, mset_eq, Int.reduceAdd])
      have y04 : y 0 4 = 1 := by rw [hy]; simp (disch := omega) only [mset_ne, mset_eq]
      have y00 : y 0 0 = 0 := by rw [hy, mset_eq rfl rfl]
      have sy : ∀ c i, ¬ (c = 0 ∧ (i = 0 ∨ i = 4)) → ¬ (c = 1) → ¬ (c = 12 ∨ c = 13 ∨ (37 ≤ c ∧ c ≤ 47)) → y c i = s c i := fun c i a b e => by rw [yf c i a b]; exact f1 c i (by omega)
      have huy : HRu 37 s y := HRu_rf (fun i => sy _ _ (by omega) (by omega) (by omega)) (fun i => sy _ _ (by omega) (by omega) (by omega)) hu0
      have y7 : y 138 7 = s 49 2 := by rw [sy _ _ (by omega) (by omega) (by omega)]; exact e7
      simp (disch := first | assumption | omega) only [rn, wk, al, wr_e, td_e, tm_e, mset_eq, mset_ne, if_pos, if_neg, Int.reduceAdd, Int.reduceSub, Int.reduceMul, Int.reduceNeg, Int.reduceLT, Int.reduceLE, Int.reduceEq, Int.cast_ofNat_Int, eq_self, and_true, true_and, ite_self, true_or, or_true, false_or, or_false, and_false, false_and, not_true_eq_false, not_false_eq_true, if_true, if_false, q_pass, ← hy]
      apply c_R_live
      simp (disch := first | assumption | omega) only [rn, wk, al, wr_e, td_e, tm_e, mset_eq, mset_ne, if_pos, if_neg, Int.reduceAdd, Int.reduceSub, Int.reduceMul, Int.reduceNeg, Int.reduceLT, Int.reduceLE, Int.reduceEq, Int.cast_ofNat_Int, eq_self, and_true, true_and, ite_self, true_or, or_true, false_or, or_false, and_false, false_and, not_true_eq_false, not_false_eq_true, if_true, if_false, e_R_live_0, e_R_live_18, e_R_live_36, e_R_live_66, q_isFrom, y7]
      refine EV_call (CV_mono (f4 y huy) ?_)
      rintro r1 w ⟨w1, ⟨d1, d2, d3, d4, d5, d6, d7⟩, w2⟩
      have hx := lp_lv43 (d + 29) sd (fun r' u => r' = t 12 0 ∧ Inv u) w (fun z z1 z2 => by
        have z42 : z 137 42 = t 12 0 := by rw [z1 _ _ (by omega)]; exact d1
        obtain ⟨x, hx⟩ : ∃ x, x = mset (mset z 137 46 1) 137 2 0 := ⟨_, rfl⟩
        have xf : ∀ c i, ¬ (c = 137 ∧ (i = 46 ∨ i = 2)) → x c i = z c i := fun c i a => by rw [hx]; simp (disch := omega) only [mset_ne]
        have G : ∀ c i, c ≠ 146 → c ≠ 147 → c ≠ 152 → c ≠ 153 → c ≠ 154 → ¬ (c = 137 ∧ (i = 26 ∨ i = 27 ∨ i = 41 ∨ i = 42 ∨ i = 46 ∨ i = 2)) → ¬ (c = 138 ∧ i < 500) → x c i = y c i := fun c i a1 a2 a3 a4 a5 a6 a7 => by
          rw [xf c i (by omega), z1 c i a5]; exact w2 c i a1 a2 a3 a4 (by omega) a7
        have Gs : ∀ c i, c ≠ 146 → c ≠ 147 → c ≠ 152 → c ≠ 153 → c ≠ 154 → ¬ (c = 137 ∧ (i = 26 ∨ i = 27 ∨ i = 41 ∨ i = 42 ∨ i = 46 ∨ i = 2)) → ¬ (c = 138 ∧ i < 500) → ¬ (c = 0 ∧ (i = 0 ∨ i = 4)) → ¬ (c = 1) → ¬ (c = 12 ∨ c = 13 ∨ (37 ≤ c ∧ c ≤ 47)) → x c i = s c i := fun c i a1 a2 a3 a4 a5 a6 a7 a8 a9 a10 => by
          rw [G c i a1 a2 a3 a4 a5 a6 a7]; exact sy c i a8 a9 a10
        have hfa := hi.2.1
        have hinv : Inv x := by
          refine ⟨?_, ?_, keep_TR hi ?_, keep_TP hi ?_ ?_ ?_ ?_, ?_, keep_MK hi ?_ ?_ ?_ ?_⟩
          · rw [hx, mset_eq rfl rfl, ← hx, G _ _ (by omega) (by omega) (by omega) (by omega) (by omega) (by omega) (by omega), y00]
          · unfold FA at hfa ⊢
            have x46 : x 137 46 = 1 := by rw [hx, mset_ne (by omega), mset_eq rfl rfl]
            have x04 : x 0 4 = 1 := by rw [G _ _ (by omega) (by omega) (by omega) (by omega) (by omega) (by omega) (by omega)]; exact y04
            refine ⟨?_, ?_, ?_, ?_, ?_, ⟨by rw [x46, x04], by rw [x04]; omega, by rw [x04]; omega⟩, fun _ i hi' => ?_⟩
            · rw [Gs 137 3 (by omega) (by omega) (by omega) (by omega) (by omega) (by omega) (by omega) (by omega) (by omega) (by omega), Gs 0 1 (by omega) (by omega) (by omega) (by omega) (by omega) (by omega) (by omega) (by omega) (by omega) (by omega)]; exact hfa.1
            · rw [Gs 137 4 (by omega) (by omega) (by omega) (by omega) (by omega) (by omega) (by omega) (by omega) (by omega) (by omega), Gs 0 2 (by omega) (by omega) (by omega) (by omega) (by omega) (by omega) (by omega) (by omega) (by omega) (by omega)]; exact hfa.2.1
            · rw [Gs 137 47 (by omega) (by omega) (by omega) (by omega) (by omega) (by omega) (by omega) (by omega) (by omega) (by omega), Gs 0 3 (by omega) (by omega) (by omega) (by omega) (by omega) (by omega) (by omega) (by omega) (by omega) (by omega)]; exact hfa.2.2.1
            · rw [Gs 137 16 (by omega) (by omega) (by omega) (by omega) (by omega) (by omega) (by omega) (by omega) (by omega) (by omega), Gs 7 8 (by omega) (by omega) (by omega) (by omega) (by omega) (by omega) (by omega) (by omega) (by omega) (by omega)]; exact hfa.2.2.2.1
            · rw [Gs 137 17 (by omega) (by omega) (by omega) (by omega) (by omega) (by omega) (by omega) (by omega) (by omega) (by omega), Gs 7 9 (by omega) (by omega) (by omega) (by omega) (by omega) (by omega) (by omega) (by omega) (by omega) (by omega)]; exact hfa.2.2.2.2.1
            · rw [xf _ _ (by omega), z2 i hi', G _ _ (by omega) (by omega) (by omega) (by omega) (by omega) (by omega) (by omega), y1 i hi']
              obtain rfl | rfl | rfl | rfl | rfl : i = 0 ∨ i = 1 ∨ i = 2 ∨ i = 3 ∨ i = 4 := by omega
              · exact d2
              · exact d3
              · exact d4
              · exact d5
              · exact d6
          · intro c i hc; exact Gs c i (by omega) (by omega) (by omega) (by omega) (by omega) (by omega) (by omega) (by omega) (by omega) (by omega)
          · exact Gs _ _ (by omega) (by omega) (by omega) (by omega) (by omega) (by omega) (by omega) (by omega) (by omega) (by omega)
          · exact Gs _ _ (by omega) (by omega) (by omega) (by omega) (by omega) (by omega) (by omega) (by omega) (by omega) (by omega)
          · intro i; exact Gs _ _ (by omega) (by omega) (by omega) (by omega) (by omega) (by omega) (by omega) (by omega) (by omega) (by omega)
          · intro i; exact Gs _ _ (by omega) (by omega) (by omega) (by omega) (by omega) (by omega) (by omega) (by omega) (by omega) (by omega)
          · refine HR_congr (A := win t 37) (B := w 138) (N := w 139) ?_ ?_ ?_ w1
            · intro k i hk _
              show x (37 + k) i = t (37 + k) i
              rw [G _ _ (by omega) (by omega) (by omega) (by omega) (by omega) (by omega) (by omega)]; exact yf _ _ (by omega) (by omega)
            · intro i _ _; rw [xf _ _ (by omega), z1 _ _ (by omega)]
            · intro i _ _; rw [xf _ _ (by omega), z1 _ _ (by omega)]
          · exact Gs _ _ (by omega) (by omega) (by omega) (by omega) (by omega) (by omega) (by omega) (by omega) (by omega) (by omega)
          · intro c i hc; exact Gs _ _ (by omega) (by omega) (by omega) (by omega) (by omega) (by omega) (by omega) (by omega) (by omega) (by omega)
          · intro i hc; exact Gs _ _ (by omega) (by omega) (by omega) (by omega) (by omega) (by omega) (by omega) (by omega) (by omega) (by omega)
          · intro i hc; exact Gs _ _ (by omega) (by omega) (by omega) (by omega) (by omega) (by omega) (by omega) (by omega) (by omega) (by omega)
        rw [e_R_live_66]
        simp (disch := first | assumption | omega) only [rn, wk, al, wr_e, td_e, tm_e, mset_eq, mset_ne, if_pos, if_neg, Int.reduceAdd, Int.reduceSub, Int.reduceMul, Int.reduceNeg, Int.reduceLT, Int.reduceLE, Int.reduceEq, Int.cast_ofNat_Int, eq_self, and_true, true_and, ite_self, true_or, or_true, false_or, or_false, and_false, false_and, not_true_eq_false, not_false_eq_true, if_true, if_false, q_gives, z42, ← hx]
        exact hinv) 5 0 w (by omega) (by omega) (fun _ _ _ => rfl) (fun j hj => by omega)
      simp (disch := first | assumption | omega) only [rn, wk, al, wr_e, td_e, tm_e, mset_eq, mset_ne, if_pos, if_neg, Int.reduceAdd, Int.reduceSub, Int.reduceMul, Int.reduceNeg, Int.reduceLT, Int.reduceLE, Int.reduceEq, Int.cast_ofNat_Int, eq_self, and_true, true_and, ite_self, true_or, or_true, false_or, or_false, and_false, false_and, not_true_eq_false, not_false_eq_true, if_true, if_false]
      exact hx
  · have q := q_isFrom (d + 28) sd 0 9999 (mset s 0 0 1)
    rw [if_neg c1] at q
    have hm : CV (d + 30) 356 [137, sd] (mset s 0 0 1) fun r' u => r' = -1 ∧ Inv u := by
      apply c_R_live
      simp (disch := first | assumption | omega) only [rn, wk, al, wr_e, td_e, tm_e, mset_eq, mset_ne, if_pos, if_neg, Int.reduceAdd, Int.reduceSub, Int.reduceMul, Int.reduceNeg, Int.reduceLT, Int.reduceLE, Int.reduceEq, Int.cast_ofNat_Int, eq_self, and_true, true_and, ite_self, true_or, or_true, false_or, or_false, and_false, false_and, not_true_eq_false, not_false_eq_true, if_true, if_false, e_R_live_0, e_R_live_18, e_R_live_36, e_R_live_66, q, q_refuse]
      exact inv_st 1 hi
    apply c_M_live
    by_cases c0 : 0 ≤ sd
    · simp (disch := first | assumption | omega) only [rn, wk, al, wr_e, td_e, tm_e, mset_eq, mset_ne, if_pos, if_neg, Int.reduceAdd, Int.reduceSub, Int.reduceMul, Int.reduceNeg, Int.reduceLT, Int.reduceLE, Int.reduceEq, Int.cast_ofNat_Int, eq_self, and_true, true_and, ite_self, true_or, or_true, false_or, or_false, and_false, false_and, not_true_eq_false, not_false_eq_true, if_true, if_false, e_M_live_0, e_M_live_11, e_M_live_17, e_M_live_37, q_fail]
      exact hm
    · simp (disch := first | assumption | omega) only [rn, wk, al, wr_e, td_e, tm_e, mset_eq, mset_ne, if_pos, if_neg, Int.reduceAdd, Int.reduceSub, Int.reduceMul, Int.reduceNeg, Int.reduceLT, Int.reduceLE, Int.reduceEq, Int.cast_ofNat_Int, eq_self, and_true, true_and, ite_self, true_or, or_true, false_or, or_false, and_false, false_and, not_true_eq_false, not_false_eq_true, if_true, if_false, e_M_live_0, e_M_live_11, e_M_live_17, e_M_live_37, q_fail]
      exact hm
