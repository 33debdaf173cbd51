/-! ===== H2: mornings alike, the end ===== -/
theorem ak_mornings (d : Nat) (n : Int) : Ak (d + 30) 71 262 [n] := by
  apply ak_of; intro s hi
  have htp := hi.2.2.2.1
  unfold TP at htp
  obtain ⟨p1, p2, p3⟩ := htp
  have hfa := hi.2.1
  unfold FA at hfa
  by_cases c1 : (0 ≤ n ∧ n ≤ s 7 1) ∧ n ≤ 300
  · have hT : TX (s 8) n := ⟨by omega, fun i hi => (p3 i (by omega)).2⟩
    have h3 : n ≤ 300 := c1.2
    obtain ⟨s1, hs1⟩ : ∃ s1, s1 = mset (mset (mset (mset (mset s 7 1 0) 7 2 n) 7 3 0) 7 8 0) 7 9 (-1) := ⟨_, rfl⟩
    have f1 : ∀ c i, ¬ (c = 7 ∧ (i = 1 ∨ i = 2 ∨ i = 3 ∨ i = 8 ∨ i = 9)) → s1 c i = s c i := fun c i h => by rw [hs1]; simp (disch := omega) only [mset_ne]
    have g1 : s1 7 1 = 0 := by rw [hs1]; simp (disch := omega) only [mset_ne, mset_eq]
    have g8 : s1 7 8 = 0 := by rw [hs1]; simp (disch := omega) only [mset_ne, mset_eq]
    have g9 : s1 7 9 = -1 := by rw [hs1, mset_eq rfl rfl]
    have hc1 : Cs (s 8) n 0 s1 := ⟨by omega, by rw [hs1]; simp (disch := omega) only [mset_ne, mset_eq], by rw [hs1]; simp (disch := omega) only [mset_ne, mset_eq], fun i _ => f1 _ _ (by omega)⟩
    have hN : ∃ u, NmU s1 u := ⟨s, NmU_c (fun c i h => f1 c i (by omega)) (fun _ _ => rfl) (fun _ => rfl) (nm_of hi)⟩
    have qb := q_Tbegin (d + 28) n s
    rw [← hs1] at qb
    apply c_M_mornings
    simp (disch := first | assumption | omega) only [rn, wk, al, wr_e, td_e, tm_e, mset_eq, mset_ne, if_pos, if_neg, Int.reduceAdd, Int.reduceSub, Int.reduceMul, Int.reduceNeg, Int.reduceLT, Int.reduceLE, Int.reduceEq, Int.cast_ofNat_Int, eq_self, and_true, true_and, ite_self, true_or, or_true, false_or, or_false, and_false, false_and, not_true_eq_false, not_false_eq_true, if_true, if_false, e_M_mornings_0, e_M_mornings_22, e_M_mornings_28, e_M_mornings_66, qb]
    refine EV_call (CV_mono (q_readIntoM (d + 22) (d + 21) hT h3 s1 hc1 hN) ?_)
    rintro r t ⟨s2, f2, ⟨i2, i1, ie⟩, f3, hL⟩
    have tf : ∀ c i, ¬ (c = 7 ∧ 1 ≤ i ∧ i ≤ 9) → ¬ (c = 10 ∧ i = 2) → c ≠ 11 → ¬ (69 ≤ c ∧ c ≤ 76) → t c i = s c i := fun c i h1 h2 h3 h4 => by rw [f3 c i (by omega) h2 h3 h4, f2 c i (by omega) h2]; exact f1 c i (by omega)
    have t71 : t 7 1 = 0 := by rw [f3 _ _ (by omega) (by omega) (by omega) (by omega), f2 _ _ (by omega) (by omega)]; exact g1
    have nm2 : ∀ u, (∀ i, i = 0 ∨ i = 2 ∨ i = 3 → u 138 i = s 138 i) → (∀ i, u 139 i = s 139 i) → NmU s2 u := fun u h1 h2 => NmU_c (fun c i h => by rw [f2 c i (by omega) (by omega)]; exact f1 c i (by omega)) h1 h2 (nm_of hi)
    rcases hL with ⟨e, e8, ⟨z0, ze⟩, K⟩ | ⟨e, e8, K⟩
    · subst e
      have t8 : t 7 8 = 0 := by rw [e8.1, f2 _ _ (by omega) (by omega)]; exact g8
      have t9 : t 7 9 = -1 := by rw [e8.2, f2 _ _ (by omega) (by omega)]; exact g9
      obtain ⟨t3, ht3⟩ : ∃ t3, t3 = tkS t 49 69 := ⟨_, rfl⟩
      have qs : sem (d + 29) 69 [49, 69] t = some (0, t3) := by rw [ht3]; exact q_takeSteps (d + 28) isH37 isH57 (by omega) t (Or.inr z0)
      obtain ⟨k1, k0, k2⟩ := tkS_49 t
      rw [← ht3] at k1 k0 k2
      have k01 : t3 49 1 = t 69 1 := k0 1 (by omega)
      have tot : ∀ c i, ¬ (c = 7 ∧ 1 ≤ i ∧ i ≤ 9) → ¬ (c = 10 ∧ i = 2) → c ≠ 11 → ¬ (69 ≤ c ∧ c ≤ 76) → ¬ (49 ≤ c ∧ c ≤ 56) → t3 c i = s c i := fun c i h1 h2 h3 h4 h5 => by rw [k2 c i h5]; exact tf c i h1 h2 h3 h4
      have t371 : t3 7 1 = 0 := by rw [k2 _ _ (by omega)]; exact t71
      have t378 : t3 7 8 = 0 := by rw [k2 _ _ (by omega)]; exact t8
      have t379 : t3 7 9 = -1 := by rw [k2 _ _ (by omega)]; exact t9
      simp (disch := first | assumption | omega) only [rn, wk, al, wr_e, td_e, tm_e, mset_eq, mset_ne, if_pos, if_neg, Int.reduceAdd, Int.reduceSub, Int.reduceMul, Int.reduceNeg, Int.reduceLT, Int.reduceLE, Int.reduceEq, Int.cast_ofNat_Int, eq_self, and_true, true_and, ite_self, true_or, or_true, false_or, or_false, and_false, false_and, not_true_eq_false, not_false_eq_true, if_true, if_false, e_M_mornings_0, e_M_mornings_22, e_M_mornings_28, e_M_mornings_66, qs, q_pass, k01]
      refine r_mornGo d hT h3 (mset t3 0 0 0) (by rw [mset_ne (by omega), tot _ _ (by omega) (by omega) (by omega) (by omega) (by omega)]; omega) (fun i hi => by rw [mset_ne (by omega), tot _ _ (by omega) (by omega) (by omega) (by omega) (by omega)]; exact (p3 i (by omega)).1) _ (fun u uf u10 u9 u22 u23 ur => ?_)
      have un : NmU s2 u := nm2 u (fun i hi => by rw [uf _ _ (by omega) (by omega) (by omega), mset_ne (by omega)]; exact tot _ _ (by omega) (by omega) (by omega) (by omega) (by omega)) (fun i => by rw [uf _ _ (by omega) (by omega) (by omega), mset_ne (by omega)]; exact tot _ _ (by omega) (by omega) (by omega) (by omega) (by omega))
      refine K u u _ (MI_init un ur u9 u23 u22 i2 i1 ie) (fun w p' hw => ?_)
      have w18 : w 137 18 = 0 := hw.2.1.2.2.1.1
      have w17 : w 137 17 = -1 := hw.2.1.2.2.1.2
      have w9 : w 138 3479 = t 69 2 := hw.2.2.2.2.1.1
      have w23 : w 137 23 = t 69 1 := hw.2.2.2.2.1.2.1
      have wf := hw.2.2.1
      obtain ⟨w1, hw1⟩ : ∃ w1, w1 = mset w 138 7 (t 69 2) := ⟨_, rfl⟩
      have w1f : ∀ c i, ¬ (c = 138 ∧ i = 7) → w1 c i = w c i := fun c i h => by rw [hw1, mset_ne (by omega)]
      have w17_ : w1 138 7 = t 69 2 := by rw [hw1, mset_eq rfl rfl]
      have hcp := lp_m103 (d + 29) n 1 w1 (fun r' u => r' = t 69 1 ∧ Inv u) (fun x x1 x2 => by
        have x18 : x 137 18 = 0 := by rw [x1 _ _ (by omega), w1f _ _ (by omega)]; exact w18
        have x23 : x 137 23 = t 69 1 := by rw [x1 _ _ (by omega), w1f _ _ (by omega)]; exact w23
        have qt := q_taken0 (d + 27) (t 69 1) x x18
        have hinv : Inv (mset (mset x 137 16 0) 137 2 0) := by
          obtain ⟨z, hz⟩ : ∃ z, z = mset (mset x 137 16 0) 137 2 0 := ⟨_, rfl⟩
          have zf_ : ∀ c i, ¬ (c = 137 ∧ (i = 16 ∨ i = 2)) → z c i = x c i := fun c i h => by rw [hz]; simp (disch := omega) only [mset_ne]
          have G0 : ∀ c i, ¬ (c = 137 ∧ (i = 16 ∨ i = 2 ∨ (10 ≤ i ∧ i ≤ 15) ∨ (17 ≤ i ∧ i ≤ 20) ∨ i = 22 ∨ i = 23)) → ¬ (144 ≤ c ∧ c ≤ 145) → ¬ (c = 138 ∧ (i = 7 ∨ (500 ≤ i ∧ i < 860) ∨ (3472 ≤ i ∧ i < 4340))) → ¬ (c = 139 ∧ 64 ≤ i ∧ i < 80) → z c i = mset t3 0 0 0 c i := fun c i h1 h2 h3 h4 => by
            rw [zf_ c i (by omega), x1 c i (by omega), w1f c i (by omega), wf c i (by omega) (by omega) (by omega) (by omega)]
            exact uf c i (by omega) (by omega) (by omega)
          have G1 : ∀ c i, ¬ (c = 137 ∧ (i = 16 ∨ i = 2 ∨ (10 ≤ i ∧ i ≤ 15) ∨ (17 ≤ i ∧ i ≤ 20) ∨ i = 22 ∨ i = 23)) → ¬ (144 ≤ c ∧ c ≤ 145) → ¬ (c = 138 ∧ (i = 7 ∨ (500 ≤ i ∧ i < 860) ∨ (3472 ≤ i ∧ i < 4340))) → ¬ (c = 139 ∧ 64 ≤ i ∧ i < 80) → ¬ (c = 0 ∧ i = 0) → ¬ (c = 7 ∧ 1 ≤ i ∧ i ≤ 9) → ¬ (10 ≤ c ∧ c ≤ 11) → ¬ (49 ≤ c ∧ c ≤ 76) → z c i = s c i := fun c i h1 h2 h3 h4 h5 h6 h7 h8 => by
            rw [G0 c i h1 h2 h3 h4, mset_ne h5]; exact tot c i h6 (by omega) (by omega) (by omega) (by omega)
          have G7 : ∀ i, z 7 i = t3 7 i := fun i => by rw [G0 _ _ (by omega) (by omega) (by omega) (by omega), mset_ne (by omega)]
          have z10 : z 137 10 = 0 := by rw [zf_ _ _ (by omega), x1 _ _ (by omega), w1f _ _ (by omega), wf _ _ (by omega) (by omega) (by omega) (by omega)]; exact u10
          have z17 : z 137 17 = -1 := by rw [zf_ _ _ (by omega), x1 _ _ (by omega), w1f _ _ (by omega)]; exact w17
          have z16 : z 137 16 = 0 := by rw [hz, mset_ne (by omega), mset_eq rfl rfl]
          have z2 : z 137 2 = 0 := by rw [hz, mset_eq rfl rfl]
          have z00 : z 0 0 = 0 := by rw [G0 _ _ (by omega) (by omega) (by omega) (by omega), mset_eq rfl rfl]
          have zA : ∀ k i, 13 ≤ k ∧ k ≤ 19 → 0 ≤ i ∧ i < 60 → win z 37 k i = t (57 + k) i := fun k i hk hi => by
            show z (37 + k) i = t (57 + k) i
            rw [G0 _ _ (by omega) (by omega) (by omega) (by omega), mset_ne (by omega)]; exact k1 k i hk hi
          have z49 : ∀ i, 0 ≤ i ∧ i ≤ 2 → z 49 i = t 69 i := fun i hi => by rw [G0 _ _ (by omega) (by omega) (by omega) (by omega), mset_ne (by omega)]; exact k0 i hi
          have z37 : ∀ i, z 37 i = t 37 i := fun i => by rw [G0 _ _ (by omega) (by omega) (by omega) (by omega), mset_ne (by omega)]; exact k2 _ _ (by omega)
          have fin := MI_fin (A := win z 37) (B := z 138) hw ze zA ((z49 0 (by omega)).trans z0) (z49 2 (by omega)) (z37 1) (z37 3) (z37 4) (fun i h1 h2 => by rw [zf_ _ _ (by omega), x2 i ⟨h1, h2⟩]; exact w1f _ _ (by omega)) (by rw [zf_ _ _ (by omega), x1 _ _ (by omega)]; exact w17_)
          rw [← hz]
          refine ⟨by rw [z2, z00], ?_, keep_TR hi ?_, ?_, HR_steps hi ?_ ?_ ?_ fin.1 fin.2, keep_MK hi ?_ ?_ ?_ ?_⟩
          · unfold FA
            rw [z16, z17, G7 8, G7 9, t378, t379]
            simp (disch := omega) only [G1]
            exact ⟨hfa.1, hfa.2.1, hfa.2.2.1, trivial, trivial, hfa.2.2.2.2.2.1, hfa.2.2.2.2.2.2⟩
          · intro c i hc; exact G1 c i (by omega) (by omega) (by omega) (by omega) (by omega) (by omega) (by omega) (by omega)
          · unfold TP
            rw [z10, G7 1, t371]
            exact ⟨rfl, by omega, fun i hi => by omega⟩
          · intro c i hc; exact G1 c i (by omega) (by omega) (by omega) (by omega) (by omega) (by omega) (by omega) (by omega)
          · intro i hi h7; exact G1 _ i (by omega) (by omega) (by omega) (by omega) (by omega) (by omega) (by omega) (by omega)
          · intro i hi; exact G1 _ i (by omega) (by omega) (by omega) (by omega) (by omega) (by omega) (by omega) (by omega)
          · exact G1 _ _ (by omega) (by omega) (by omega) (by omega) (by omega) (by omega) (by omega) (by omega)
          · intro c i hc; exact G1 _ _ (by omega) (by omega) (by omega) (by omega) (by omega) (by omega) (by omega) (by omega)
          · intro i hc; exact G1 _ _ (by omega) (by omega) (by omega) (by omega) (by omega) (by omega) (by omega) (by omega)
          · intro i hc; exact G1 _ _ (by omega) (by omega) (by omega) (by omega) (by omega) (by omega) (by omega) (by omega)
        rw [e_R_mornings_132]
        simp (disch := first | assumption | omega) only [rn, wk, al, wr_e, td_e, tm_e, mset_eq, mset_ne, if_pos, if_neg, Int.reduceAdd, Int.reduceSub, Int.reduceMul, Int.reduceNeg, Int.reduceLT, Int.reduceLE, Int.reduceEq, Int.cast_ofNat_Int, eq_self, and_true, true_and, ite_self, true_or, or_true, false_or, or_false, and_false, false_and, not_true_eq_false, not_false_eq_true, if_true, if_false, x23, qt]
        exact hinv) 360 500 w1 (by omega) (by omega) (fun _ _ _ => rfl) (fun i hi => by omega)
      rw [e_R_mornings_77]
      simp (disch := first | assumption | omega) only [rn, wk, al, wr_e, td_e, tm_e, mset_eq, mset_ne, if_pos, if_neg, Int.reduceAdd, Int.reduceSub, Int.reduceMul, Int.reduceNeg, Int.reduceLT, Int.reduceLE, Int.reduceEq, Int.cast_ofNat_Int, eq_self, and_true, true_and, ite_self, true_or, or_true, false_or, or_false, and_false, false_and, not_true_eq_false, not_false_eq_true, if_true, if_false, w18, w9, ← hw1]
      exact hcp
    · subst e
      simp (disch := first | assumption | omega) only [rn, wk, al, wr_e, td_e, tm_e, mset_eq, mset_ne, if_pos, if_neg, Int.reduceAdd, Int.reduceSub, Int.reduceMul, Int.reduceNeg, Int.reduceLT, Int.reduceLE, Int.reduceEq, Int.cast_ofNat_Int, eq_self, and_true, true_and, ite_self, true_or, or_true, false_or, or_false, and_false, false_and, not_true_eq_false, not_false_eq_true, if_true, if_false, e_M_mornings_0, e_M_mornings_22, e_M_mornings_28, e_M_mornings_66, q_fail]
      refine r_mornGo d hT h3 (mset t 0 0 9) (by rw [mset_ne (by omega), tf _ _ (by omega) (by omega) (by omega) (by omega)]; omega) (fun i hi => by rw [mset_ne (by omega), tf _ _ (by omega) (by omega) (by omega) (by omega)]; exact (p3 i (by omega)).1) _ (fun u uf u10 u9 u22 u23 ur => ?_)
      have un : NmU s2 u := nm2 u (fun i hi => by rw [uf _ _ (by omega) (by omega) (by omega), mset_ne (by omega)]; exact tf _ _ (by omega) (by omega) (by omega) (by omega)) (fun i => by rw [uf _ _ (by omega) (by omega) (by omega), mset_ne (by omega)]; exact tf _ _ (by omega) (by omega) (by omega) (by omega))
      refine K u u _ (MI_init un ur u9 u23 u22 i2 i1 ie) (fun w q hw => ?_)
      obtain ⟨-, wf, w18, w17⟩ := hw
      have w18p : 0 < w 137 18 := by rw [w18]; exact e8
      have qt := q_taken1 (d + 27) (w 137 23) w w18p
      have hinv : Inv (mset (mset w 137 16 (w 137 18)) 137 2 9) := by
        obtain ⟨z, hz⟩ : ∃ z, z = mset (mset w 137 16 (w 137 18)) 137 2 9 := ⟨_, rfl⟩
        have zf_ : ∀ c i, ¬ (c = 137 ∧ (i = 16 ∨ i = 2)) → z c i = w c i := fun c i h => by rw [hz]; simp (disch := omega) only [mset_ne]
        have G0 : ∀ c i, ¬ (c = 137 ∧ (i = 16 ∨ i = 2 ∨ (10 ≤ i ∧ i ≤ 15) ∨ (17 ≤ i ∧ i ≤ 20) ∨ i = 22 ∨ i = 23)) → ¬ (144 ≤ c ∧ c ≤ 145) → ¬ (c = 138 ∧ 3472 ≤ i ∧ i < 4340) → ¬ (c = 139 ∧ 64 ≤ i ∧ i < 80) → z c i = mset t 0 0 9 c i := fun c i h1 h2 h3 h4 => by
          rw [zf_ c i (by omega), wf c i (by omega) h3 h4 (by omega)]
          exact uf c i (by omega) (by omega) (by omega)
        have G1 : ∀ c i, ¬ (c = 137 ∧ (i = 16 ∨ i = 2 ∨ (10 ≤ i ∧ i ≤ 15) ∨ (17 ≤ i ∧ i ≤ 20) ∨ i = 22 ∨ i = 23)) → ¬ (144 ≤ c ∧ c ≤ 145) → ¬ (c = 138 ∧ 3472 ≤ i ∧ i < 4340) → ¬ (c = 139 ∧ 64 ≤ i ∧ i < 80) → ¬ (c = 0 ∧ i = 0) → ¬ (c = 7 ∧ 1 ≤ i ∧ i ≤ 9) → ¬ (10 ≤ c ∧ c ≤ 11) → ¬ (69 ≤ c ∧ c ≤ 76) → z c i = s c i := fun c i h1 h2 h3 h4 h5 h6 h7 h8 => by
          rw [G0 c i h1 h2 h3 h4, mset_ne h5]; exact tf c i h6 (by omega) (by omega) h8
        have G7 : ∀ i, z 7 i = t 7 i := fun i => by rw [G0 _ _ (by omega) (by omega) (by omega) (by omega), mset_ne (by omega)]
        have z10 : z 137 10 = 0 := by rw [zf_ _ _ (by omega), wf _ _ (by omega) (by omega) (by omega) (by omega)]; exact u10
        have z17 : z 137 17 = t 7 9 := by rw [zf_ _ _ (by omega)]; exact w17
        have z16 : z 137 16 = t 7 8 := by rw [hz, mset_ne (by omega), mset_eq rfl rfl]; exact w18
        have z2 : z 137 2 = 9 := by rw [hz, mset_eq rfl rfl]
        have z00 : z 0 0 = 9 := by rw [G0 _ _ (by omega) (by omega) (by omega) (by omega), mset_eq rfl rfl]
        rw [← hz]
        refine ⟨by rw [z2, z00], ?_, keep_TR hi ?_, ?_, keep_HR hi ?_ ?_ ?_, keep_MK hi ?_ ?_ ?_ ?_⟩
        · unfold FA
          rw [z16, z17, G7 8, G7 9]
          simp (disch := omega) only [G1]
          exact ⟨hfa.1, hfa.2.1, hfa.2.2.1, trivial, trivial, hfa.2.2.2.2.2.1, hfa.2.2.2.2.2.2⟩
        · intro c i hc; exact G1 c i (by omega) (by omega) (by omega) (by omega) (by omega) (by omega) (by omega) (by omega)
        · unfold TP
          rw [z10, G7 1, t71]
          exact ⟨rfl, by omega, fun i hi => by omega⟩
        · intros; exact G1 _ _ (by omega) (by omega) (by omega) (by omega) (by omega) (by omega) (by omega) (by omega)
        · intros; exact G1 _ _ (by omega) (by omega) (by omega) (by omega) (by omega) (by omega) (by omega) (by omega)
        · intros; exact G1 _ _ (by omega) (by omega) (by omega) (by omega) (by omega) (by omega) (by omega) (by omega)
        · exact G1 _ _ (by omega) (by omega) (by omega) (by omega) (by omega) (by omega) (by omega) (by omega)
        · intro c i hc; exact G1 _ _ (by omega) (by omega) (by omega) (by omega) (by omega) (by omega) (by omega) (by omega)
        · intro i hc; exact G1 _ _ (by omega) (by omega) (by omega) (by omega) (by omega) (by omega) (by omega) (by omega)
        · intro i hc; exact G1 _ _ (by omega) (by omega) (by omega) (by omega) (by omega) (by omega) (by omega) (by omega)
      have w18n : ¬ w 137 18 = 0 := by omega
      rw [e_R_mornings_77]
      simp (disch := first | assumption | omega) only [rn, wk, al, wr_e, td_e, tm_e, mset_eq, mset_ne, if_pos, if_neg, Int.reduceAdd, Int.reduceSub, Int.reduceMul, Int.reduceNeg, Int.reduceLT, Int.reduceLE, Int.reduceEq, Int.cast_ofNat_Int, eq_self, and_true, true_and, ite_self, true_or, or_true, false_or, or_false, and_false, false_and, not_true_eq_false, not_false_eq_true, if_true, if_false, e_R_mornings_132, w18n, qt]
      exact hinv
  · have hb : sem (d + 29) 228 [137, n, 300] (mset s 0 0 1) = some (0, mset s 0 0 1) := by
      apply CV_eq; apply c_R_begins
      have e10 : mset s 0 0 1 137 10 = s 7 1 := by rw [mset_ne (by omega)]; exact p1
      by_cases c0 : 0 ≤ n
      · by_cases c2 : n ≤ s 7 1
        · simp (disch := first | assumption | omega) only [rn, wk, al, wr_e, td_e, tm_e, mset_eq, mset_ne, if_pos, if_neg, Int.reduceAdd, Int.reduceSub, Int.reduceMul, Int.reduceNeg, Int.reduceLT, Int.reduceLE, Int.reduceEq, Int.cast_ofNat_Int, eq_self, and_true, true_and, ite_self, true_or, or_true, false_or, or_false, and_false, false_and, not_true_eq_false, not_false_eq_true, if_true, if_false, e_R_begins_0, e_R_begins_17, e_R_begins_19, e_R_begins_49, e10]
        · simp (disch := first | assumption | omega) only [rn, wk, al, wr_e, td_e, tm_e, mset_eq, mset_ne, if_pos, if_neg, Int.reduceAdd, Int.reduceSub, Int.reduceMul, Int.reduceNeg, Int.reduceLT, Int.reduceLE, Int.reduceEq, Int.cast_ofNat_Int, eq_self, and_true, true_and, ite_self, true_or, or_true, false_or, or_false, and_false, false_and, not_true_eq_false, not_false_eq_true, if_true, if_false, e_R_begins_0, e_R_begins_17, e_R_begins_19, e_R_begins_49, e10]
      · simp (disch := first | assumption | omega) only [rn, wk, al, wr_e, td_e, tm_e, mset_eq, mset_ne, if_pos, if_neg, Int.reduceAdd, Int.reduceSub, Int.reduceMul, Int.reduceNeg, Int.reduceLT, Int.reduceLE, Int.reduceEq, Int.cast_ofNat_Int, eq_self, and_true, true_and, ite_self, true_or, or_true, false_or, or_false, and_false, false_and, not_true_eq_false, not_false_eq_true, if_true, if_false, e_R_begins_0, e_R_begins_17, e_R_begins_19, e_R_begins_49, e10]
    have hm : CV (d + 30) 262 [137, n] (mset s 0 0 1) fun r' u => r' = -1 ∧ Inv u := by
      apply c_R_mornings
      simp (disch := first | assumption | omega) only [rn, wk, al, wr_e, td_e, tm_e, mset_eq, mset_ne, if_pos, if_neg, Int.reduceAdd, Int.reduceSub, Int.reduceMul, Int.reduceNeg, Int.reduceLT, Int.reduceLE, Int.reduceEq, Int.cast_ofNat_Int, eq_self, and_true, true_and, ite_self, true_or, or_true, false_or, or_false, and_false, false_and, not_true_eq_false, not_false_eq_true, if_true, if_false, e_R_mornings_0, e_R_mornings_17, e_R_mornings_57, e_R_mornings_77, e_R_mornings_132, hb, q_refuse]
      exact inv_st 1 hi
    apply c_M_mornings
    by_cases c0 : 0 ≤ n
    · by_cases c2 : n ≤ s 7 1
      · simp (disch := first | assumption | omega) only [rn, wk, al, wr_e, td_e, tm_e, mset_eq, mset_ne, if_pos, if_neg, Int.reduceAdd, Int.reduceSub, Int.reduceMul, Int.reduceNeg, Int.reduceLT, Int.reduceLE, Int.reduceEq, Int.cast_ofNat_Int, eq_self, and_true, true_and, ite_self, true_or, or_true, false_or, or_false, and_false, false_and, not_true_eq_false, not_false_eq_true, if_true, if_false, e_M_mornings_0, e_M_mornings_22, e_M_mornings_28, e_M_mornings_66, q_fail]
        exact hm
      · simp (disch := first | assumption | omega) only [rn, wk, al, wr_e, td_e, tm_e, mset_eq, mset_ne, if_pos, if_neg, Int.reduceAdd, Int.reduceSub, Int.reduceMul, Int.reduceNeg, Int.reduceLT, Int.reduceLE, Int.reduceEq, Int.cast_ofNat_Int, eq_self, and_true, true_and, ite_self, true_or, or_true, false_or, or_false, and_false, false_and, not_true_eq_false, not_false_eq_true, if_true, if_false, e_M_mornings_0, e_M_mornings_22, e_M_mornings_28, e_M_mornings_66, q_fail]
        exact hm
    · simp (disch := first | assumption | omega) only [rn, wk, al, wr_e, td_e, tm_e, mset_eq, mset_ne, if_pos, if_neg, Int.reduceAdd, Int.reduceSub, Int.reduceMul, Int.reduceNeg, Int.reduceLT, Int.reduceLE, Int.reduceEq, Int.cast_ofNat_Int, eq_self, and_true, true_and, ite_self, true_or, or_true, false_or, or_false, and_false, false_and, not_true_eq_false, not_false_eq_true, if_true, if_false, e_M_mornings_0, e_M_mornings_22, e_M_mornings_28, e_M_mornings_66, q_fail]
      exact hm
