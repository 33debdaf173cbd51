/-! ===== H2: say, hush alike ===== -/
theorem HR_say {A A' : Mem} {B B' N N' : Int → Int} {c y b n : Int} (hr : HR A B N) (hn : n = A 0 5) (h8 : n < 8) (hc : 0 ≤ c ∧ c < A 0 4) (hy : 0 ≤ y ∧ y < A 7 c) (hb : 0 ≤ b ∧ b ≤ 20)
    (hA : ∀ k i, 0 ≤ k ∧ k < 20 → 0 ≤ i ∧ i < ln k → ¬ (k = 0 ∧ i = 5) → ¬ (k = 9 ∧ i = n) → A' k i = A k i) (h5 : A' 0 5 = n + 1) (h9 : A' 9 n = 63 * c + 21 * y + b)
    (hB : ∀ i, 0 ≤ i → i < 868 → i ≠ 4 → ¬ (109 + 3 * n ≤ i ∧ i ≤ 111 + 3 * n) → B' i = B i) (b4 : B' 4 = n + 1) (b0 : B' (109 + 3 * n) = c) (b1 : B' (110 + 3 * n) = y) (b2 : B' (111 + 3 * n) = b)
    (hN : ∀ i, 0 ≤ i → i < 16 → N' i = N i) : HR A' B' N' := by
  have hr1 := hr.1.1
  unfold VC at hr1
  have hr2 : HR (mset (mset A' 0 5 n) 9 n (A 9 n)) (fun i => if i = 4 ∨ (109 + 3 * n ≤ i ∧ i ≤ 111 + 3 * n) then B i else B' i) N' := by
    refine HR_congr ?_ ?_ hN hr
    · intro k i h1 h2
      by_cases e : k = 0 ∧ i = 5
      · obtain ⟨rfl, rfl⟩ := e
        simp (disch := omega) only [mset_eq, mset_ne]
        exact hn
      · by_cases e2 : k = 9 ∧ i = n
        · obtain ⟨rfl, rfl⟩ := e2
          simp (disch := omega) only [mset_eq]
        · simp (disch := omega) only [mset_ne]
          exact hA k i h1 h2 e e2
    · intro i h1 h2
      by_cases e : i = 4 ∨ (109 + 3 * n ≤ i ∧ i ≤ 111 + 3 * n)
      · simp only [if_pos e]
      · simp only [if_neg e]
        exact hB i h1 h2 (by omega) (by omega)
  have g : ∀ i, 0 ≤ i → i ≤ 6 → i ≠ 5 → A' 0 i = A 0 i := fun i h1 h2 h3 => hA 0 i (by omega) ⟨h1, show i < 7 by omega⟩ (by omega) (by omega)
  have g0 := g 0 (by omega) (by omega) (by omega)
  have g1 := g 1 (by omega) (by omega) (by omega)
  have g2 := g 2 (by omega) (by omega) (by omega)
  have g3 := g 3 (by omega) (by omega) (by omega)
  have g4 := g 4 (by omega) (by omega) (by omega)
  have g6 := g 6 (by omega) (by omega) (by omega)
  have g7 : A' 7 c = A 7 c := hA 7 c (by omega) ⟨hc.1, show c < 5 by omega⟩ (by omega) (by omega)
  refine ⟨⟨?_, wkeep_VW hr2 (by intros; simp (disch := omega) only [mset_nc, mset_ne, if_neg]) (by intros; simp (disch := omega) only [mset_nc, mset_ne, if_neg]) (by intros; simp (disch := omega) only [mset_nc, mset_ne, if_neg]) (by intros; simp (disch := omega) only [mset_nc, mset_ne, if_neg]) (by intros; simp (disch := omega) only [mset_nc, mset_ne, if_neg]), wkeep_VS hr2 (by intros; simp (disch := omega) only [mset_nc, mset_ne, if_neg]) (by intros; simp (disch := omega) only [mset_nc, mset_ne, if_neg]) (by intros; simp (disch := omega) only [mset_nc, mset_ne, if_neg]), wkeep_VL hr2 (by intros; simp (disch := omega) only [mset_nc, mset_ne, if_neg]) (by intros; simp (disch := omega) only [mset_nc, mset_ne, if_neg]) (by intros; simp (disch := omega) only [mset_nc, mset_ne, if_neg]) (by intros; simp (disch := omega) only [mset_nc, mset_ne, if_neg]) (by intros; simp (disch := omega) only [mset_nc, mset_ne, if_neg]), wkeep_VU hr2 (by intros; simp (disch := omega) only [mset_nc, mset_ne, if_neg]) (by intros; simp (disch := omega) only [mset_nc, mset_ne, if_neg]) (by intros; simp (disch := omega) only [mset_nc, mset_ne, if_neg]), wkeep_VN hr2 (by intros; simp (disch := omega) only [mset_nc, mset_ne, if_neg]) (by intros; simp (disch := omega) only [mset_nc, mset_ne, if_neg]) (by intros; simp (disch := omega) only [mset_nc, mset_ne, if_neg]) (by intros; simp (disch := omega) only [mset_nc, mset_ne, if_neg]) (by intros; simp (disch := omega) only [mset_nc, mset_ne, if_neg]) (by intros; simp (disch := omega) only [mset_nc, mset_ne, if_neg]), wkeep_VT hr2 (by intros; simp (disch := omega) only [mset_nc, mset_ne, if_neg]) (by intros; simp (disch := omega) only [mset_nc, mset_ne, if_neg]) (by intros; simp (disch := omega) only [mset_nc, mset_ne, if_neg]) (by intros; simp (disch := omega) only [mset_nc, mset_ne, if_neg])⟩, ?_, wkeep_RW hr2 (by intros; simp (disch := omega) only [mset_nc, mset_ne, if_neg]) (by intros; simp (disch := omega) only [mset_nc, mset_ne, if_neg]) (by intros; simp (disch := omega) only [mset_nc, mset_ne, if_neg]) (by intros; simp (disch := omega) only [mset_nc, mset_ne, if_neg]) (by intros; simp (disch := omega) only [mset_nc, mset_ne, if_neg]), wkeep_RS hr2 (by intros; simp (disch := omega) only [mset_nc, mset_ne, if_neg]) (by intros; simp (disch := omega) only [mset_nc, mset_ne, if_neg]) (by intros; simp (disch := omega) only [mset_nc, mset_ne, if_neg]), wkeep_RL hr2 (by intros; simp (disch := omega) only [mset_nc, mset_ne, if_neg]) (by intros; simp (disch := omega) only [mset_nc, mset_ne, if_neg]) (by intros; simp (disch := omega) only [mset_nc, mset_ne, if_neg]) (by intros; simp (disch := omega) only [mset_nc, mset_ne, if_neg]) (by intros; simp (disch := omega) only [mset_nc, mset_ne, if_neg]), ?_, wkeep_RU hr2 (by intros; simp (disch := omega) only [mset_nc, mset_ne, if_neg]) (by intros; simp (disch := omega) only [mset_nc, mset_ne, if_neg]) (by intros; simp (disch := omega) only [mset_nc, mset_ne, if_neg]), wkeep_RN hr2 (by intros; simp (disch := omega) only [mset_nc, mset_ne, if_neg]) (by intros; simp (disch := omega) only [mset_nc, mset_ne, if_neg]) (by intros; simp (disch := omega) only [mset_nc, mset_ne, if_neg]) (by intros; simp (disch := omega) only [mset_nc, mset_ne, if_neg]) (by intros; simp (disch := omega) only [mset_nc, mset_ne, if_neg]), wkeep_RT hr2 (by intros; simp (disch := omega) only [mset_nc, mset_ne, if_neg]) (by intros; simp (disch := omega) only [mset_nc, mset_ne, if_neg]) (by intros; simp (disch := omega) only [mset_nc, mset_ne, if_neg])⟩
  · unfold VC
    omega
  · have hc2 := hr2.2.1
    unfold RC at hc2 ⊢
    simp (disch := omega) only [mset_ne, mset_eq, if_neg, if_pos] at hc2
    omega
  · intro k hk
    rw [h5] at hk
    by_cases e : k = n
    · subst e
      rw [h9, b0, b1, b2, g4, g7]
      exact ⟨rfl, hc, hy, hb⟩
    · have hk2 := hr2.2.2.2.2.2.1 k (by simp (disch := omega) only [mset_ne, mset_eq]; omega)
      simp (disch := omega) only [mset_ne, if_neg] at hk2
      exact hk2
theorem spk_iff {s t : Mem} {h c y b : Int} {N : Int → Int} (hr : HR (win s h) (t 138) N) (hc : 0 ≤ c ∧ c < s h 4) (hy : 0 ≤ y ∧ y < 3) (hb : 0 ≤ b ∧ b ≤ 20) : spk s h (s h 5) (63 * c + 21 * y + b) ↔ spR t c y b := by
  have e4 : t 138 4 = s (h + 0) 5 := hr.2.1.2.2.2.2.1
  rw [Int.add_zero] at e4
  have hk : ∀ k, 0 ≤ k ∧ k < s (h + 0) 5 → s (h + 9) k = 63 * t 138 (109 + 3 * k) + 21 * t 138 (110 + 3 * k) + t 138 (111 + 3 * k) ∧ (0 ≤ t 138 (109 + 3 * k) ∧ t 138 (109 + 3 * k) < s (h + 0) 4) ∧ (0 ≤ t 138 (110 + 3 * k) ∧ t 138 (110 + 3 * k) < s (h + 7) (t 138 (109 + 3 * k))) ∧ (0 ≤ t 138 (111 + 3 * k) ∧ t 138 (111 + 3 * k) ≤ 20) := hr.2.2.2.2.2.1
  have hl : ∀ c, 0 ≤ c ∧ c < s (h + 0) 4 → (0 ≤ s (h + 6) c ∧ s (h + 6) c < s (h + 0) 1) ∧ (0 ≤ s (h + 7) c ∧ s (h + 7) c ≤ 3) ∧ _ := hr.1.2.2.2.1
  rw [Int.add_zero] at hk hl
  constructor
  · rintro ⟨k, h1, h2⟩
    have q := hk k h1
    have q2 := (hl _ q.2.1).2.1
    exact ⟨k, by omega, by omega, by omega, by omega⟩
  · rintro ⟨k, h1, h2, h3, h4⟩
    have q := hk k (by omega)
    exact ⟨k, by omega, by omega⟩
theorem ak_say (d : Nat) (c y b : Int) : Ak (d + 30) 101 284 [c, y, b] := by
  apply ak_of; intro s hi
  have hc := inv_c hi
  have hr := inv_rc hi
  have hl := inv_vl hi
  have hrl := inv_rl hi
  by_cases c1 : 0 ≤ b ∧ b ≤ 20
  · apply c_M_say
    simp (disch := first | assumption | omega) only [rn, wk, al, wr_e, td_e, tm_e, mset_eq, mset_ne, if_pos, if_neg, Int.reduceAdd, Int.reduceSub, Int.reduceMul, Int.reduceNeg, Int.reduceLT, Int.reduceLE, Int.reduceEq, Int.cast_ofNat_Int, eq_self, and_true, true_and, ite_self, true_or, or_true, false_or, or_false, and_false, false_and, not_true_eq_false, not_false_eq_true, if_true, if_false, e_M_say_0, e_M_say_10, e_M_say_47, e_M_say_53]
    rw [e_M_say_16]
    simp (disch := first | assumption | omega) only [rn, wk, al, wr_e, td_e, tm_e, mset_eq, mset_ne, if_pos, if_neg, Int.reduceAdd, Int.reduceSub, Int.reduceMul, Int.reduceNeg, Int.reduceLT, Int.reduceLE, Int.reduceEq, Int.cast_ofNat_Int, eq_self, and_true, true_and, ite_self, true_or, or_true, false_or, or_false, and_false, false_and, not_true_eq_false, not_false_eq_true, if_true, if_false]
    refine EV_call (CV_mono (q_addCall _ isH37 c y b s (by omega) (by omega) (fun c h => (hl c h).2.1.2) c1) ?_)
    rintro r t (⟨rfl, rfl, hx⟩ | ⟨x1, x2, hx⟩)
    · have hx : ¬ ((0 ≤ c ∧ c < t 37 4) ∧ (0 ≤ y ∧ y < t 44 c)) := hx
      simp (disch := first | assumption | omega) only [rn, wk, al, wr_e, td_e, tm_e, mset_eq, mset_ne, if_pos, if_neg, Int.reduceAdd, Int.reduceSub, Int.reduceMul, Int.reduceNeg, Int.reduceLT, Int.reduceLE, Int.reduceEq, Int.cast_ofNat_Int, eq_self, and_true, true_and, ite_self, true_or, or_true, false_or, or_false, and_false, false_and, not_true_eq_false, not_false_eq_true, if_true, if_false, e_M_say_0, e_M_say_10, e_M_say_16, e_M_say_47, e_M_say_53, q_fail]
      apply c_R_say
      simp (disch := first | assumption | omega) only [rn, wk, al, wr_e, td_e, tm_e, mset_eq, mset_ne, if_pos, if_neg, Int.reduceAdd, Int.reduceSub, Int.reduceMul, Int.reduceNeg, Int.reduceLT, Int.reduceLE, Int.reduceEq, Int.cast_ofNat_Int, eq_self, and_true, true_and, ite_self, true_or, or_true, false_or, or_false, and_false, false_and, not_true_eq_false, not_false_eq_true, if_true, if_false, e_R_say_0, e_R_say_41, e_R_say_51, q_isFrom]
      rw [e_R_say_18]
      simp (disch := first | assumption | omega) only [rn, wk, al, wr_e, td_e, tm_e, mset_eq, mset_ne, if_pos, if_neg, Int.reduceAdd, Int.reduceSub, Int.reduceMul, Int.reduceNeg, Int.reduceLT, Int.reduceLE, Int.reduceEq, Int.cast_ofNat_Int, eq_self, and_true, true_and, ite_self, true_or, or_true, false_or, or_false, and_false, false_and, not_true_eq_false, not_false_eq_true, if_true, if_false]
      refine EV_call (CV_mono (q_says _ c y b _ (by simp (disch := omega) only [mset_ne]; omega) (by simp (disch := omega) only [mset_ne]; omega)) ?_)
      rintro r u (⟨rfl, rfl, hz⟩ | ⟨z1, z2, hz⟩)
      · simp (disch := first | assumption | omega) only [rn, wk, al, wr_e, td_e, tm_e, mset_eq, mset_ne, if_pos, if_neg, Int.reduceAdd, Int.reduceSub, Int.reduceMul, Int.reduceNeg, Int.reduceLT, Int.reduceLE, Int.reduceEq, Int.cast_ofNat_Int, eq_self, and_true, true_and, ite_self, true_or, or_true, false_or, or_false, and_false, false_and, not_true_eq_false, not_false_eq_true, if_true, if_false, e_R_say_0, e_R_say_18, e_R_say_41, e_R_say_51, q_refuse]
        exact inv_st 1 hi
      · simp (disch := omega) only [mset_ne] at z1 z2
        have := (hrl c (by omega)).2.1
        exfalso; apply hx; omega
    · have x2 : 0 ≤ y ∧ y < s 44 c := x2
      have x3 := hl c x1
      have x4 := hrl c x1
      have hfin : ∀ (p : Int) (t : Mem), (∀ i, t 138 i = s 138 i) → (∀ (r : Int) (u : Mem), ((r = 4 ∧ u = t ∧ s 37 5 = 8) ∨ (s 37 5 < 8 ∧ ((r = 7 ∧ u = t ∧ spR t c y b) ∨ (r = 0 ∧ u = saT t c y b ∧ ¬ spR t c y b)))) → EV (d + 29) o_R_say 18 [] [137, c, y, b, 0] t (fun r' u => r' = p ∧ Inv u) ∨ True) → True := fun _ _ _ _ => trivial
      clear hfin
      have hR : ∀ (t : Mem) (Q : Int → Mem → Prop), (∀ i, t 138 i = s 138 i) → (s 37 5 = 8 → Q (-1) (mset t 137 2 4)) → (s 37 5 < 8 → spR t c y b → Q (-1) (mset t 137 2 7)) → (s 37 5 < 8 → ¬ spR t c y b → Q (s 37 5 + 1) (mset (saT t c y b) 137 2 0)) → CV (d + 30) 284 [137, c, y, b] t Q := by
        intro t Q ht k4 k7 k0
        apply c_R_say
        simp (disch := first | assumption | omega) only [rn, wk, al, wr_e, td_e, tm_e, mset_eq, mset_ne, if_pos, if_neg, Int.reduceAdd, Int.reduceSub, Int.reduceMul, Int.reduceNeg, Int.reduceLT, Int.reduceLE, Int.reduceEq, Int.cast_ofNat_Int, eq_self, and_true, true_and, ite_self, true_or, or_true, false_or, or_false, and_false, false_and, not_true_eq_false, not_false_eq_true, if_true, if_false, e_R_say_0, e_R_say_41, e_R_say_51, q_isFrom]
        rw [e_R_say_18]
        simp (disch := first | assumption | omega) only [rn, wk, al, wr_e, td_e, tm_e, mset_eq, mset_ne, if_pos, if_neg, Int.reduceAdd, Int.reduceSub, Int.reduceMul, Int.reduceNeg, Int.reduceLT, Int.reduceLE, Int.reduceEq, Int.cast_ofNat_Int, eq_self, and_true, true_and, ite_self, true_or, or_true, false_or, or_false, and_false, false_and, not_true_eq_false, not_false_eq_true, if_true, if_false]
        refine EV_call (CV_mono (q_says _ c y b t (by rw [ht]; omega) (by rw [ht]; omega)) ?_)
        rintro r u (⟨rfl, rfl, hz⟩ | ⟨z1, z2, ⟨rfl, rfl, z3⟩ | ⟨z3, ⟨rfl, rfl, z4⟩ | ⟨rfl, rfl, z4⟩⟩⟩)
        · exfalso
          rw [ht, ht] at hz
          apply hz; omega
        · rw [ht] at z3
          simp (disch := first | assumption | omega) only [rn, wk, al, wr_e, td_e, tm_e, mset_eq, mset_ne, if_pos, if_neg, Int.reduceAdd, Int.reduceSub, Int.reduceMul, Int.reduceNeg, Int.reduceLT, Int.reduceLE, Int.reduceEq, Int.cast_ofNat_Int, eq_self, and_true, true_and, ite_self, true_or, or_true, false_or, or_false, and_false, false_and, not_true_eq_false, not_false_eq_true, if_true, if_false, e_R_say_0, e_R_say_18, e_R_say_41, e_R_say_51, q_refuse]
          exact k4 (by omega)
        · rw [ht] at z3
          simp (disch := first | assumption | omega) only [rn, wk, al, wr_e, td_e, tm_e, mset_eq, mset_ne, if_pos, if_neg, Int.reduceAdd, Int.reduceSub, Int.reduceMul, Int.reduceNeg, Int.reduceLT, Int.reduceLE, Int.reduceEq, Int.cast_ofNat_Int, eq_self, and_true, true_and, ite_self, true_or, or_true, false_or, or_false, and_false, false_and, not_true_eq_false, not_false_eq_true, if_true, if_false, e_R_say_0, e_R_say_18, e_R_say_41, e_R_say_51, q_refuse]
          exact k7 (by omega) z4
        · rw [ht] at z3
          have e : saT t c y b 138 4 = s 37 5 + 1 := by unfold saT; rw [mset_eq rfl rfl, ht]; omega
          simp (disch := first | assumption | omega) only [rn, wk, al, wr_e, td_e, tm_e, mset_eq, mset_ne, if_pos, if_neg, Int.reduceAdd, Int.reduceSub, Int.reduceMul, Int.reduceNeg, Int.reduceLT, Int.reduceLE, Int.reduceEq, Int.cast_ofNat_Int, eq_self, and_true, true_and, ite_self, true_or, or_true, false_or, or_false, and_false, false_and, not_true_eq_false, not_false_eq_true, if_true, if_false, e_R_say_0, e_R_say_18, e_R_say_41, e_R_say_51, q_gives, e]
          exact k0 (by omega) z4
      rcases hx with ⟨rfl, rfl, x5⟩ | ⟨x5, ⟨rfl, rfl, x6⟩ | ⟨rfl, rfl, x6⟩⟩
      · simp (disch := first | assumption | omega) only [rn, wk, al, wr_e, td_e, tm_e, mset_eq, mset_ne, if_pos, if_neg, Int.reduceAdd, Int.reduceSub, Int.reduceMul, Int.reduceNeg, Int.reduceLT, Int.reduceLE, Int.reduceEq, Int.cast_ofNat_Int, eq_self, and_true, true_and, ite_self, true_or, or_true, false_or, or_false, and_false, false_and, not_true_eq_false, not_false_eq_true, if_true, if_false, e_M_say_0, e_M_say_10, e_M_say_16, e_M_say_47, e_M_say_53, q_fail]
        refine hR _ _ (by intro i; rw [mset_ne (by omega)]) (fun _ => ⟨rfl, inv_st 4 hi⟩) (fun h => by omega) (fun h => by omega)
      · simp (disch := first | assumption | omega) only [rn, wk, al, wr_e, td_e, tm_e, mset_eq, mset_ne, if_pos, if_neg, Int.reduceAdd, Int.reduceSub, Int.reduceMul, Int.reduceNeg, Int.reduceLT, Int.reduceLE, Int.reduceEq, Int.cast_ofNat_Int, eq_self, and_true, true_and, ite_self, true_or, or_true, false_or, or_false, and_false, false_and, not_true_eq_false, not_false_eq_true, if_true, if_false, e_M_say_0, e_M_say_10, e_M_say_16, e_M_say_47, e_M_say_53, q_fail]
        refine hR _ _ (by intro i; rw [mset_ne (by omega)]) (fun h => by omega) (fun _ _ => ⟨rfl, inv_st 7 hi⟩) (fun _ h => ?_)
        exfalso
        apply h
        have := (spk_iff (s := t) (t := t) (h := 37) (N := t 139) hi.2.2.2.2.1 x1 (by omega) c1).mp x6
        unfold spR at this ⊢
        simpa (disch := omega) only [mset_ne] using this
      · simp (disch := first | assumption | omega) only [rn, wk, al, wr_e, td_e, tm_e, mset_eq, mset_ne, if_pos, if_neg, Int.reduceAdd, Int.reduceSub, Int.reduceMul, Int.reduceNeg, Int.reduceLT, Int.reduceLE, Int.reduceEq, Int.cast_ofNat_Int, eq_self, and_true, true_and, ite_self, true_or, or_true, false_or, or_false, and_false, false_and, not_true_eq_false, not_false_eq_true, if_true, if_false, e_M_say_0, e_M_say_10, e_M_say_16, e_M_say_47, e_M_say_53, q_pass]
        refine hR _ _ (by intro i; simp (disch := omega) only [mset_ne]) (fun h => by omega) (fun _ h => ?_) (fun _ _ => ⟨rfl, ?_⟩)
        · exfalso
          apply x6
          refine (spk_iff (s := s) (t := s) (h := 37) (N := s 139) hi.2.2.2.2.1 x1 (by omega) c1).mpr ?_
          unfold spR at h ⊢
          simpa (disch := omega) only [mset_ne] using h
        · have e5 : 109 + 3 * s 138 4 = 109 + 3 * s 37 5 := by omega
          have e6 : 109 + 3 * s 37 5 + 1 = 110 + 3 * s 37 5 := by omega
          have e7 : 109 + 3 * s 37 5 + 2 = 111 + 3 * s 37 5 := by omega
          unfold saT
          simp (disch := omega) only [mset_ne, e5, e6, e7, hr.2.2.2.2.1, Int.reduceAdd]
          refine inv_up hi (by simp (disch := omega) only [mset_eq, mset_ne]) (by intro c i hv h1 h2 h3; unfold Rv at hv; simp (disch := omega) only [mset_ne]) ?_
          refine HR_say (c := c) (y := y) (b := b) (n := s 37 5) hi.2.2.2.2.1 rfl x5 x1 x2 c1 ?_ ?_ ?_ ?_ ?_ ?_ ?_ ?_ ?_
          · intro k i h1 h2 h3 h4
            simp (disch := omega) only [win, mset_ne]
          · simp (disch := omega) only [win, mset_ne, mset_eq, Int.reduceAdd]
          · simp (disch := omega) only [win, mset_ne, mset_eq, Int.reduceAdd]
          · intro i h1 h2 h3 h4
            simp (disch := omega) only [mset_ne]
          · simp (disch := omega) only [mset_ne, mset_eq]
          · simp (disch := omega) only [mset_ne, mset_eq]
          · simp (disch := omega) only [mset_ne, mset_eq]
          · simp (disch := omega) only [mset_ne, mset_eq]
          · intro i h1 h2
            simp (disch := omega) only [mset_ne]
  · apply c_M_say
    simp (disch := first | assumption | omega) only [rn, wk, al, wr_e, td_e, tm_e, mset_eq, mset_ne, if_pos, if_neg, Int.reduceAdd, Int.reduceSub, Int.reduceMul, Int.reduceNeg, Int.reduceLT, Int.reduceLE, Int.reduceEq, Int.cast_ofNat_Int, eq_self, and_true, true_and, ite_self, true_or, or_true, false_or, or_false, and_false, false_and, not_true_eq_false, not_false_eq_true, if_true, if_false, e_M_say_0, e_M_say_10, e_M_say_47, e_M_say_53, q_fail]
    repeat' split
    all_goals
      apply c_R_say
      simp (disch := first | assumption | omega) only [rn, wk, al, wr_e, td_e, tm_e, mset_eq, mset_ne, if_pos, if_neg, Int.reduceAdd, Int.reduceSub, Int.reduceMul, Int.reduceNeg, Int.reduceLT, Int.reduceLE, Int.reduceEq, Int.cast_ofNat_Int, eq_self, and_true, true_and, ite_self, true_or, or_true, false_or, or_false, and_false, false_and, not_true_eq_false, not_false_eq_true, if_true, if_false, e_R_say_0, e_R_say_41, e_R_say_51, q_isFrom, q_refuse]
      first | exact inv_st 1 hi | omega
