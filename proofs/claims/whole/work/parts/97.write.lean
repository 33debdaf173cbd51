/-! ===== H2: writeSums ===== -/
theorem VB_congr {A A' : Mem} (h : ∀ k, 0 ≤ k → k < 20 → k ≠ 10 → A' k = A k) (hv : VB A) : VB A' := by
  have e0 := h 0 (by omega) (by omega) (by omega)
  have e2 := h 2 (by omega) (by omega) (by omega)
  have e3 := h 3 (by omega) (by omega) (by omega)
  have e4 := h 4 (by omega) (by omega) (by omega)
  have e5 := h 5 (by omega) (by omega) (by omega)
  have e6 := h 6 (by omega) (by omega) (by omega)
  have e7 := h 7 (by omega) (by omega) (by omega)
  have e8 := h 8 (by omega) (by omega) (by omega)
  have e11 := h 11 (by omega) (by omega) (by omega)
  obtain ⟨h1, h2, h3, h4⟩ := hv
  have hk : ∀ n a b x y, wk_ A' n a b x y = wk_ A n a b x y := wkeep_wk (by rw [e0]) e2 e3 e4
  have hd : ∀ a b x y, dst A' a b x y = dst A a b x y := by
    intro a b x y; unfold dst; simp only [hk]
  refine ⟨?_, ?_, ?_, ?_⟩
  · unfold VC at h1 ⊢; rw [e0]; exact h1
  · unfold VS at h2 ⊢; rw [e0, e5]; exact h2
  · unfold VL at h3 ⊢; rw [e0, e6, e7, e8]; exact h3
  · unfold VN at h4 ⊢; simp only [hk, hd, e0, e11]; exact h4
theorem vKs_congr {A A' : Mem} (h : ∀ k, 0 ≤ k → k < 20 → k ≠ 10 → A' k = A k) (hv : vKs A) : vKs A' := by
  unfold vKs vK vQ at hv ⊢
  rw [h 0 (by omega) (by omega) (by omega), h 7 (by omega) (by omega) (by omega), h 9 (by omega) (by omega) (by omega)]
  exact hv
theorem dP_congr {A A' : Mem} (h : ∀ k, 0 ≤ k → k < 20 → k ≠ 10 → A' k = A k) (c p : Int) : dP A' c p = dP A c p := by
  unfold dP
  rw [h 11 (by omega) (by omega) (by omega), h 6 (by omega) (by omega) (by omega)]
theorem aP_congr {A A' : Mem} (h : ∀ k, 0 ≤ k → k < 20 → k ≠ 10 → A' k = A k) (q p i : Int) : aP A' q p i = aP A q p i := by
  unfold aP
  rw [dP_congr h, h 8 (by omega) (by omega) (by omega)]
theorem lp_ws3 (d : Nat) {h : Int} (hh : isH h) (X : Int) (hX : alen X = 364) (hhX : X = h + 10 ∨ X < h) (s : Mem) (hv : VB (win s h)) (hvk : vKs (win s h)) (v : Mem) (hvf : Fx s X v) (k y : Int) (hk : 0 ≤ k ∧ k < s h 5) (hy : 0 ≤ y ∧ y < s h 3) (D bgn : Int) (hD : D = dP (win s h) (s (h + 9) k / 63) (s (h + 5) y)) (hD1 : 0 ≤ D ∧ D < 10000000) (hbg : bgn = s (h + 9) k % 21 + D / 1000) (hbb : 0 ≤ bgn ∧ bgn ≤ 74) (hvb : ∀ x b, 0 ≤ x ∧ x < 4 → 0 ≤ b ∧ b < 91 → 0 ≤ v X (4 * b + x) ∧ v X (4 * b + x) ≤ 1000000) (Q : Int → Mem → Prop) (hQ : ∀ u, Fx s X u → (∀ x b, 0 ≤ x ∧ x < 4 → 0 ≤ b ∧ b < 91 → u X (4 * b + x) = v X (4 * b + x) + if x = y ∧ bgn ≤ b ∧ b < bgn + 3 then aP (win s h) (s (h + 9) k / 21) (s (h + 5) y) (b - bgn) else 0) → EV (d + 3) o_Hall_writeSums 102 [] [h, X, k, y, D, bgn, 3] u Q) : ∀ (n : Nat) (i : Int) (u : Mem), 0 ≤ i → i + n = 3 → Fx s X u → (∀ x b, 0 ≤ x ∧ x < 4 → 0 ≤ b ∧ b < 91 → u X (4 * b + x) = v X (4 * b + x) + if x = y ∧ bgn ≤ b ∧ b < bgn + i then aP (win s h) (s (h + 9) k / 21) (s (h + 5) y) (b - bgn) else 0) → EV (d + 3) o_Hall_writeSums 53 [] [h, X, k, y, D, bgn, i] u Q := by
  have h1 := hv.1
  unfold VC at h1
  simp only [win, Int.add_zero] at h1
  have hvk1 : vK (win s h) (s (h + 9) k) := hvk k (by simp only [win, Int.add_zero]; omega)
  have hq := hvk1.2.2
  have hv0 : 0 ≤ s (h + 9) k ∧ s (h + 9) k < 315 := ⟨hvk1.1, hvk1.2.1⟩
  have hp : 0 ≤ s (h + 5) y ∧ s (h + 5) y < win s h 0 1 := hv.2.1 y (by simp only [win, Int.add_zero]; exact hy)
  have e3 : s (h + 9) k / 21 / 3 = s (h + 9) k / 63 := by omega
  intro n
  induction n with
  | zero =>
    intro i u h0 hi hf hu
    have ei : i = 3 := by omega
    subst ei
    rw [e_Hall_writeSums_53]
    simp (disch := first | assumption | omega) only [rn, wk, al, wr_e, td_e, tm_e, mset_eq, mset_ne, if_pos, if_neg, Int.reduceAdd, Int.reduceSub, Int.reduceMul, Int.reduceNeg, Int.reduceLT, Int.reduceLE, Int.reduceEq, Int.cast_ofNat_Int, eq_self, and_true, true_and, ite_self, true_or, or_true, false_or, or_false, and_false, false_and, not_true_eq_false, not_false_eq_true, if_true, if_false]
    exact hQ u hf hu
  | succ n ih =>
    intro i u h0 hi hf hu
    have ea : aP (win s h) (s (h + 9) k / 21) (s (h + 5) y) i = max 0 (s (h + 8) (3 * (s (h + 9) k / 21) + i) - D % 1000) := by
      unfold aP
      rw [e3, ← hD, if_pos hD1.2]
      rfl
    have hn0 : 0 ≤ s (h + 8) (3 * (s (h + 9) k / 21) + i) ∧ s (h + 8) (3 * (s (h + 9) k / 21) + i) ≤ 99 := nb_ok hv hq (by omega)
    have g9 : ∀ j, u (h + 9) j = s (h + 9) j := fun j => hf _ _ (by omega)
    have g8 : ∀ j, u (h + 8) j = s (h + 8) j := fun j => hf _ _ (by omega)
    have hu1 := hu y (bgn + i) (by omega) (by omega)
    rw [if_neg (by omega), Int.add_zero] at hu1
    have hb1 := hvb y (bgn + i) (by omega) (by omega)
    have qk := q_kindOf (d + 2) hh k u (by omega) (by rw [g9]; exact hv0)
    rw [g9] at qk
    have qa := q_amount (d + 1) hh (s (h + 9) k / 21) i (D % 1000) u (by omega) (by omega) (by rw [g8]; exact hn0) (by omega)
    rw [g8] at qa
    rw [e_Hall_writeSums_53]
    simp (disch := first | assumption | omega) only [rn, wk, al, wr_e, td_e, tm_e, mset_eq, mset_ne, if_pos, if_neg, Int.reduceAdd, Int.reduceSub, Int.reduceMul, Int.reduceNeg, Int.reduceLT, Int.reduceLE, Int.reduceEq, Int.cast_ofNat_Int, eq_self, and_true, true_and, ite_self, true_or, or_true, false_or, or_false, and_false, false_and, not_true_eq_false, not_false_eq_true, if_true, if_false, hX, q_cellOf, qk, q_lossOf, qa, hu1]
    refine ih (i + 1) _ (by omega) (by omega) (Fx_set hf) ?_
    intro x b hx hb
    by_cases e : x = y ∧ b = bgn + i
    · obtain ⟨rfl, rfl⟩ := e
      rw [mset_eq rfl rfl, if_pos (by omega), show bgn + i - bgn = i by omega, ea]
    · rw [mset_ne (by omega), hu x b hx hb]
      by_cases c : x = y ∧ bgn ≤ b ∧ b < bgn + i
      · rw [if_pos c, if_pos (by omega)]
      · rw [if_neg c, if_neg (by omega)]
theorem pt_bg {A : Mem} (hv : VB A) {v y b : Int} (hk : vK A v) (hy : 0 ≤ y ∧ y < A 0 3) (hb : 0 ≤ b ∧ b < 91) : (dP A (v / 63) (A 5 y) = 10000000 ∧ pt A v y b = 0) ∨ (0 ≤ dP A (v / 63) (A 5 y) ∧ dP A (v / 63) (A 5 y) < 10000000 ∧ dP A (v / 63) (A 5 y) / 1000 ≤ 54 ∧ pt A v y b = if v % 21 + dP A (v / 63) (A 5 y) / 1000 ≤ b ∧ b < v % 21 + dP A (v / 63) (A 5 y) / 1000 + 3 then aP A (v / 21) (A 5 y) (b - (v % 21 + dP A (v / 63) (A 5 y) / 1000)) else 0) := by
  have hc := vQ_c hk.2.2
  have e3 : v / 21 / 3 = v / 63 := by omega
  rw [e3] at hc
  have hd := (dP_ok hv hc (hv.2.1 y hy)).2
  have h0 := hk.1
  by_cases c : dP A (v / 63) (A 5 y) = 10000000
  · refine Or.inl ⟨c, ?_⟩
    unfold pt aP
    rw [e3, if_neg (show ¬ dP A (v / 63) (A 5 y) < 10000000 by omega)]
    split <;> rfl
  · refine Or.inr ?_
    have : 0 ≤ dP A (v / 63) (A 5 y) ∧ dP A (v / 63) (A 5 y) < 10000000 ∧ dP A (v / 63) (A 5 y) / 1000 ≤ 54 := by
      rcases hd with q | ⟨x, y, q⟩ <;> omega
    refine ⟨this.1, this.2.1, this.2.2, ?_⟩
    unfold pt bP
    rw [e3]
    generalize dP A (v / 63) (A 5 y) / 1000 = D
    by_cases c2 : 0 ≤ b - v % 21 - D ∧ b - v % 21 - D < 3
    · rw [if_pos c2, if_pos (by omega)]; congr 1; omega
    · rw [if_neg c2, if_neg (by omega)]
theorem lp_ws2 (d : Nat) {h : Int} (hh : isH h) (X : Int) (hX : alen X = 364) (hhX : X = h + 10 ∨ X < h) (s : Mem) (hv : VB (win s h)) (hvk : vKs (win s h)) (v : Mem) (k : Int) (hk : 0 ≤ k ∧ k < s h 5) (hvb : ∀ x b, 0 ≤ x ∧ x < 4 → 0 ≤ b ∧ b < 91 → 0 ≤ v X (4 * b + x) ∧ v X (4 * b + x) ≤ 900000) (Q : Int → Mem → Prop) (hQ : ∀ u z1 z2 z3, Fx s X u → (∀ x b, 0 ≤ x ∧ x < 4 → 0 ≤ b ∧ b < 91 → u X (4 * b + x) = v X (4 * b + x) + if x < s h 3 then pt (win s h) (s (h + 9) k) x b else 0) → EV (d + 3) o_Hall_writeSums 108 [] [h, X, k, s h 3, z1, z2, z3] u Q) : ∀ (n : Nat) (y : Int) (u : Mem) (z1 z2 z3 : Int), 0 ≤ y → y + n = s h 3 → Fx s X u → (∀ x b, 0 ≤ x ∧ x < 4 → 0 ≤ b ∧ b < 91 → u X (4 * b + x) = v X (4 * b + x) + if x < y then pt (win s h) (s (h + 9) k) x b else 0) → EV (d + 3) o_Hall_writeSums 17 [] [h, X, k, y, z1, z2, z3] u Q := by
  have h1 := hv.1
  unfold VC at h1
  simp only [win, Int.add_zero] at h1
  have hvk1 : vK (win s h) (s (h + 9) k) := hvk k (by simp only [win, Int.add_zero]; omega)
  have hv0 : 0 ≤ s (h + 9) k ∧ s (h + 9) k < 315 := ⟨hvk1.1, hvk1.2.1⟩
  intro n
  induction n with
  | zero =>
    intro y u z1 z2 z3 h0 hy hf hu
    have ey : y = s h 3 := by omega
    have g3 : u h 3 = s h 3 := hf _ _ (by omega)
    subst ey
    rw [e_Hall_writeSums_17]
    simp (disch := first | assumption | omega) only [rn, wk, al, wr_e, td_e, tm_e, mset_eq, mset_ne, if_pos, if_neg, Int.reduceAdd, Int.reduceSub, Int.reduceMul, Int.reduceNeg, Int.reduceLT, Int.reduceLE, Int.reduceEq, Int.cast_ofNat_Int, eq_self, and_true, true_and, ite_self, true_or, or_true, false_or, or_false, and_false, false_and, not_true_eq_false, not_false_eq_true, if_true, if_false, g3]
    exact hQ u _ _ _ hf hu
  | succ n ih =>
    intro y u z1 z2 z3 h0 hy hf hu
    have g3 : u h 3 = s h 3 := hf _ _ (by omega)
    have g9 : ∀ j, u (h + 9) j = s (h + 9) j := fun j => hf _ _ (by omega)
    have g5 : ∀ j, u (h + 5) j = s (h + 5) j := fun j => hf _ _ (by omega)
    have gw : ∀ k, 0 ≤ k → k < 20 → k ≠ 10 → win u h k = win s h k := by
      intro k a b c; funext i; exact hf _ _ (by omega)
    have hv' := VB_congr gw hv
    have hq0 := vQ_c hvk1.2.2
    have hc : 0 ≤ s (h + 9) k / 63 ∧ s (h + 9) k / 63 < s h 4 := by
      simp only [win, Int.add_zero] at hq0; omega
    have qc := q_callerOf (d + 1) hh k u (by omega) (by rw [g9]; exact hv0)
    have qs := q_startOf (d + 2) hh k u (by omega) (by rw [g9]; exact hv0)
    have g4 : u h 4 = s h 4 := hf _ _ (by omega)
    have qd := q_distanceToSlate (d + 1) hh (s (h + 9) k / 63) y u hv' (by rw [g4]; exact hc) (by rw [g3]; omega)
    rw [g9] at qc qs
    rw [dP_congr gw, g5] at qd
    have hp := fun b hb => pt_bg hv (b := b) hvk1 (y := y) (by simp only [win, Int.add_zero]; omega) hb
    have e5 : win s h 5 y = s (h + 5) y := rfl
    rw [e5] at hp
    have hub : ∀ x b, 0 ≤ x ∧ x < 4 → 0 ≤ b ∧ b < 91 → 0 ≤ u X (4 * b + x) ∧ u X (4 * b + x) ≤ 1000000 := by
      intro x b hx hb
      rw [hu x b hx hb]
      have := hvb x b hx hb
      by_cases c : x < y
      · have := pt_ok hv (v := s (h + 9) k) (x := x) (b := b) hvk1 (by simp only [win, Int.add_zero]; omega)
        rw [if_pos c]; omega
      · rw [if_neg c]; omega
    have hd0 : 0 ≤ dP (win s h) (s (h + 9) k / 63) (s (h + 5) y) ∧ dP (win s h) (s (h + 9) k / 63) (s (h + 5) y) ≤ 10000000 := by
      rcases hp 0 (by omega) with q | q <;> omega
    by_cases c1 : dP (win s h) (s (h + 9) k / 63) (s (h + 5) y) < 10000000
    · have hd54 : dP (win s h) (s (h + 9) k / 63) (s (h + 5) y) / 1000 ≤ 54 := by
        rcases hp 0 (by omega) with q | q <;> omega
      rw [e_Hall_writeSums_17]
      simp (disch := first | assumption | omega) only [rn, wk, al, wr_e, td_e, tm_e, mset_eq, mset_ne, if_pos, if_neg, Int.reduceAdd, Int.reduceSub, Int.reduceMul, Int.reduceNeg, Int.reduceLT, Int.reduceLE, Int.reduceEq, Int.cast_ofNat_Int, eq_self, and_true, true_and, ite_self, true_or, or_true, false_or, or_false, and_false, false_and, not_true_eq_false, not_false_eq_true, if_true, if_false, g3, qc, qd, qs, q_beatsOf]
      refine lp_ws3 d hh X hX hhX s hv hvk u hf k y hk (by omega) _ _ rfl (by omega) rfl (by omega) hub Q ?_ 3 0 u (by omega) (by omega) hf ?_
      · intro u' hf' hu'
        simp (disch := first | assumption | omega) only [rn, wk, al, wr_e, td_e, tm_e, mset_eq, mset_ne, if_pos, if_neg, Int.reduceAdd, Int.reduceSub, Int.reduceMul, Int.reduceNeg, Int.reduceLT, Int.reduceLE, Int.reduceEq, Int.cast_ofNat_Int, eq_self, and_true, true_and, ite_self, true_or, or_true, false_or, or_false, and_false, false_and, not_true_eq_false, not_false_eq_true, if_true, if_false, e_Hall_writeSums_0, e_Hall_writeSums_102, e_Hall_writeSums_108, e_Hall_writeSums_114]
        refine ih (y + 1) u' _ _ _ (by omega) (by omega) hf' ?_
        intro x b hx hb
        rw [hu' x b hx hb, hu x b hx hb]
        by_cases e : x = y
        · subst e
          rcases hp b hb with q | ⟨q1, q2, q3, q4⟩
          · omega
          · rw [if_neg (show ¬ x < x by omega), if_pos (show x < x + 1 by omega), q4, Int.add_zero]
            by_cases c : s (h + 9) k % 21 + dP (win s h) (s (h + 9) k / 63) (s (h + 5) x) / 1000 ≤ b ∧ b < s (h + 9) k % 21 + dP (win s h) (s (h + 9) k / 63) (s (h + 5) x) / 1000 + 3
            · rw [if_pos ⟨rfl, c⟩, if_pos c]
            · rw [if_neg (fun h => c h.2), if_neg c]
        · by_cases c : x < y
          · rw [if_pos c, if_neg (fun h => e h.1), Int.add_zero, if_pos (by omega)]
          · rw [if_neg c, if_neg (fun h => e h.1), Int.add_zero, if_neg (by omega)]
      · intro x b hx hb
        rw [if_neg (by omega), Int.add_zero]
    · rw [e_Hall_writeSums_17]
      simp (disch := first | assumption | omega) only [rn, wk, al, wr_e, td_e, tm_e, mset_eq, mset_ne, if_pos, if_neg, Int.reduceAdd, Int.reduceSub, Int.reduceMul, Int.reduceNeg, Int.reduceLT, Int.reduceLE, Int.reduceEq, Int.cast_ofNat_Int, eq_self, and_true, true_and, ite_self, true_or, or_true, false_or, or_false, and_false, false_and, not_true_eq_false, not_false_eq_true, if_true, if_false, g3, qc, qd, qs, q_beatsOf]
      rw [e_Hall_writeSums_53]
      simp (disch := first | assumption | omega) only [rn, wk, al, wr_e, td_e, tm_e, mset_eq, mset_ne, if_pos, if_neg, Int.reduceAdd, Int.reduceSub, Int.reduceMul, Int.reduceNeg, Int.reduceLT, Int.reduceLE, Int.reduceEq, Int.cast_ofNat_Int, eq_self, and_true, true_and, ite_self, true_or, or_true, false_or, or_false, and_false, false_and, not_true_eq_false, not_false_eq_true, if_true, if_false, e_Hall_writeSums_0, e_Hall_writeSums_102, e_Hall_writeSums_108, e_Hall_writeSums_114]
      refine ih (y + 1) u _ _ _ (by omega) (by omega) hf ?_
      intro x b hx hb
      rw [hu x b hx hb]
      by_cases e : x = y
      · subst e
        rcases hp b hb with q | q
        · rw [if_neg (by omega), if_pos (by omega), q.2]
        · omega
      · by_cases c : x < y
        · rw [if_pos c, if_pos (by omega)]
        · rw [if_neg c, if_neg (by omega)]
theorem lp_ws1 (d : Nat) {h : Int} (hh : isH h) (X : Int) (hX : alen X = 364) (hhX : X = h + 10 ∨ X < h) (s : Mem) (hv : VB (win s h)) (hvk : vKs (win s h)) (Q : Int → Mem → Prop) (hQ : ∀ u, Fx s X u → (∀ x b, 0 ≤ x ∧ x < 4 → 0 ≤ b ∧ b < 91 → u X (4 * b + x) = if x < s h 3 then sb (win s h) x b else 0) → Q 0 u) : ∀ (n : Nat) (k : Nat) (u : Mem) (z0 z1 z2 z3 : Int), (k : Int) + n = s h 5 → Fx s X u → (∀ x b, 0 ≤ x ∧ x < 4 → 0 ≤ b ∧ b < 91 → u X (4 * b + x) = if x < s h 3 then sg (fun k => pt (win s h) (s (h + 9) k) x b) 0 k else 0) → EV (d + 3) o_Hall_writeSums 7 [] [h, X, k, z0, z1, z2, z3] u Q := by
  have h1 := hv.1
  unfold VC at h1
  simp only [win, Int.add_zero] at h1
  intro n
  induction n with
  | zero =>
    intro k u z0 z1 z2 z3 hk hf hu
    have g5 : u h 5 = s h 5 := hf _ _ (by omega)
    have hq := hQ u hf (by
      intro x b hx hb
      rw [hu x b hx hb]
      unfold sb
      have e : (win s h 0 5).toNat = k := by simp only [win, Int.add_zero]; omega
      rw [e]; rfl)
    rw [e_Hall_writeSums_7]
    simp (disch := first | assumption | omega) only [rn, wk, al, wr_e, td_e, tm_e, mset_eq, mset_ne, if_pos, if_neg, Int.reduceAdd, Int.reduceSub, Int.reduceMul, Int.reduceNeg, Int.reduceLT, Int.reduceLE, Int.reduceEq, Int.cast_ofNat_Int, eq_self, and_true, true_and, ite_self, true_or, or_true, false_or, or_false, and_false, false_and, not_true_eq_false, not_false_eq_true, if_true, if_false, e_Hall_writeSums_0, e_Hall_writeSums_102, e_Hall_writeSums_108, e_Hall_writeSums_114, g5]
    exact hq
  | succ n ih =>
    intro k u z0 z1 z2 z3 hk hf hu
    have g5 : u h 5 = s h 5 := hf _ _ (by omega)
    rw [e_Hall_writeSums_7]
    simp (disch := first | assumption | omega) only [rn, wk, al, wr_e, td_e, tm_e, mset_eq, mset_ne, if_pos, if_neg, Int.reduceAdd, Int.reduceSub, Int.reduceMul, Int.reduceNeg, Int.reduceLT, Int.reduceLE, Int.reduceEq, Int.cast_ofNat_Int, eq_self, and_true, true_and, ite_self, true_or, or_true, false_or, or_false, and_false, false_and, not_true_eq_false, not_false_eq_true, if_true, if_false, g5]
    refine lp_ws2 d hh X hX hhX s hv hvk u k (by omega) ?_ Q ?_ (s h 3).toNat 0 u _ _ _ (by omega) (by omega) hf ?_
    · intro x b hx hb
      rw [hu x b hx hb]
      by_cases c : x < s h 3
      · rw [if_pos c]
        have := sg_bd (f := fun k => pt (win s h) (s (h + 9) k) x b) (m := 99) k 0 (fun i a b => pt_ok hv (hvk i (by simp only [win, Int.add_zero]; omega)) (by simp only [win, Int.add_zero]; omega))
        omega
      · rw [if_neg c]; omega
    · intro u' y1 y2 y3 hf' hu'
      simp (disch := first | assumption | omega) only [rn, wk, al, wr_e, td_e, tm_e, mset_eq, mset_ne, if_pos, if_neg, Int.reduceAdd, Int.reduceSub, Int.reduceMul, Int.reduceNeg, Int.reduceLT, Int.reduceLE, Int.reduceEq, Int.cast_ofNat_Int, eq_self, and_true, true_and, ite_self, true_or, or_true, false_or, or_false, and_false, false_and, not_true_eq_false, not_false_eq_true, if_true, if_false, e_Hall_writeSums_0, e_Hall_writeSums_102, e_Hall_writeSums_108, e_Hall_writeSums_114]
      have hx := ih (k + 1) u' (s h 3) y1 y2 y3 (by omega) hf' (by
        intro x b hx hb
        rw [hu' x b hx hb, hu x b hx hb]
        by_cases c : x < s h 3
        · rw [if_pos c, if_pos c, if_pos c, sg_last, Int.zero_add]
        · rw [if_neg c, if_neg c, if_neg c, Int.add_zero])
      exact hx
    · intro x b hx hb
      rw [if_neg (by omega), Int.add_zero]
theorem q_writeSums (d : Nat) {h : Int} (hh : isH h) (X : Int) (hX : alen X = 364) (hhX : X = h + 10 ∨ X < h) (s : Mem) (hv : VB (win s h)) (hvk : vKs (win s h)) : CV (d + 4) 113 [h, X] s fun _ u => Fx s X u ∧ ∀ x b, 0 ≤ x ∧ x < 4 → 0 ≤ b ∧ b < 91 → u X (4 * b + x) = if x < s h 3 then sb (win s h) x b else 0 := by
  have h1 := hv.1
  unfold VC at h1
  simp only [win, Int.add_zero] at h1
  apply c_Hall_writeSums
  simp (disch := first | assumption | omega) only [rn, wk, al, wr_e, td_e, tm_e, mset_eq, mset_ne, if_pos, if_neg, Int.reduceAdd, Int.reduceSub, Int.reduceMul, Int.reduceNeg, Int.reduceLT, Int.reduceLE, Int.reduceEq, Int.cast_ofNat_Int, eq_self, and_true, true_and, ite_self, true_or, or_true, false_or, or_false, and_false, false_and, not_true_eq_false, not_false_eq_true, if_true, if_false, e_Hall_writeSums_0, e_Hall_writeSums_102, e_Hall_writeSums_108, e_Hall_writeSums_114, q_fill, hX]
  have F1 : Fx s X (fil s X 364 0) := by intro c i hc; rw [fil_out (by omega)]
  refine lp_ws1 d hh X hX hhX s hv hvk _ (fun u a b => ⟨a, b⟩) (s h 5).toNat 0 _ _ _ _ _ (by omega) F1 ?_
  intro x b hx hb
  rw [fil_in rfl (by omega)]
  split <;> rfl
