/-! ===== H2: from, record ===== -/
theorem ior_0 {x : Int} (h : in32 x) : ior_ x 0 = x := by
  unfold ior_
  have : Int32.ofInt 0 = 0 := rfl
  rw [this, Int32.or_zero]
  exact i32_to h
theorem ior_in' (x y : Int) : in32 (ior_ x y) := i32_in _
theorem q_partOf (d : Nat) (A s : Mem) (h : RB A s) (hk : RK A (s 138)) (k x b : Int) (hk1 : 0 ≤ k ∧ k < A 0 5) (hx : 0 ≤ x ∧ x < A 0 3) (hb : 0 ≤ b ∧ b ≤ 90) : sem (d + 4) 310 [137, k, x, b] s = some (pt A (A 9 k) x b, s) := by
  apply CV_eq; apply c_R_partOf
  have h1 := h.1.1
  unfold VC at h1
  have q := hk k hk1
  have hl := (h.1.2.2.1 _ q.2.1).2.1
  have hp := h.1.2.1 x hx
  have g50 := h.2.2.1 x hx
  obtain ⟨e0, e1, e2⟩ := nf_d h q.2.1 hp
  have hv := rk_v h.1.1 h.1.2.2.1 hk hk1
  have hpb := pt_bg h.1 (b := b) hv (y := x) hx (by omega)
  have e63 : A 9 k / 63 = s 138 (109 + 3 * k) := by omega
  have e21 : A 9 k / 21 = 3 * s 138 (109 + 3 * k) + s 138 (110 + 3 * k) := by omega
  have em : A 9 k % 21 = s 138 (111 + 3 * k) := by omega
  rw [e63, e21, em] at hpb
  have k0 : 109 + 3 * k + 0 = 109 + 3 * k := by omega
  have k1 : 109 + 3 * k + 1 = 110 + 3 * k := by omega
  have k2 : 109 + 3 * k + 2 = 111 + 3 * k := by omega
  rcases hpb with ⟨q1, q2⟩ | ⟨q1, q2, q3, q4⟩
  · have f1 : s 146 (7 * A 6 (s 138 (109 + 3 * k)) + A 5 x) = 1000000 := by
      rcases e2 with p | ⟨a, b, p⟩ <;> omega
    rw [q2]
    simp (disch := first | assumption | omega) only [rn, wk, al, wr_e, td_e, tm_e, mset_eq, mset_ne, if_pos, if_neg, Int.reduceAdd, Int.reduceSub, Int.reduceMul, Int.reduceNeg, Int.reduceLT, Int.reduceLE, Int.reduceEq, Int.cast_ofNat_Int, eq_self, and_true, true_and, ite_self, true_or, or_true, false_or, or_false, and_false, false_and, not_true_eq_false, not_false_eq_true, if_true, if_false, e_R_partOf_0, e_R_partOf_50, e_R_partOf_67, e_R_partOf_80, e_R_partOf_84, e_R_partOf_100, q_callOf, q_callerRow, k0, k1, k2, g50, e0, f1]
  · have f1 : s 146 (7 * A 6 (s 138 (109 + 3 * k)) + A 5 x) < 1000000 := by
      rcases e2 with p | ⟨a, b, p⟩ <;> omega
    have qb := q_behindAt (d + 1) A s h (s 138 (109 + 3 * k)) (A 5 x) q.2.1 hp q2
    rw [q4]
    by_cases c : s 138 (111 + 3 * k) + dP A (s 138 (109 + 3 * k)) (A 5 x) / 1000 ≤ b ∧ b < s 138 (111 + 3 * k) + dP A (s 138 (109 + 3 * k)) (A 5 x) / 1000 + 3
    · have ql := q_loudAt d A s h (s 138 (109 + 3 * k)) (s 138 (110 + 3 * k)) (b - s 138 (111 + 3 * k) - dP A (s 138 (109 + 3 * k)) (A 5 x) / 1000) (A 5 x) q.2.1 q.2.2.1 (by omega) hp
      have ee : b - (s 138 (111 + 3 * k) + dP A (s 138 (109 + 3 * k)) (A 5 x) / 1000) = b - s 138 (111 + 3 * k) - dP A (s 138 (109 + 3 * k)) (A 5 x) / 1000 := by omega
      rw [if_pos c, ee]
      simp (disch := first | assumption | omega) only [rn, wk, al, wr_e, td_e, tm_e, mset_eq, mset_ne, if_pos, if_neg, Int.reduceAdd, Int.reduceSub, Int.reduceMul, Int.reduceNeg, Int.reduceLT, Int.reduceLE, Int.reduceEq, Int.cast_ofNat_Int, eq_self, and_true, true_and, ite_self, true_or, or_true, false_or, or_false, and_false, false_and, not_true_eq_false, not_false_eq_true, if_true, if_false, e_R_partOf_0, e_R_partOf_50, e_R_partOf_67, e_R_partOf_80, e_R_partOf_84, e_R_partOf_100, q_callOf, q_callerRow, k0, k1, k2, g50, e0, f1, qb, ql]
    · rw [if_neg c]
      simp (disch := first | assumption | omega) only [rn, wk, al, wr_e, td_e, tm_e, mset_eq, mset_ne, if_pos, if_neg, Int.reduceAdd, Int.reduceSub, Int.reduceMul, Int.reduceNeg, Int.reduceLT, Int.reduceLE, Int.reduceEq, Int.cast_ofNat_Int, eq_self, and_true, true_and, ite_self, true_or, or_true, false_or, or_false, and_false, false_and, not_true_eq_false, not_false_eq_true, if_true, if_false, e_R_partOf_0, e_R_partOf_50, e_R_partOf_67, e_R_partOf_80, e_R_partOf_84, e_R_partOf_100, q_callOf, q_callerRow, k0, k1, k2, g50, e0, f1, qb]
      repeat' split
      all_goals first | trivial | omega
def fr_ (F : Int → Int) : Nat → Int → Int → Int
  | 0, _, a => a
  | n + 1, k, a => fr_ F n (k + 1) (if 0 < F k then ior_ a (ishl_ 1 k) else a)
theorem lp_Mfrom (d : Nat) (A s : Mem) (hA : A = win s 37) (x b : Int) (hv : VB A) (hk : vKs A) (hx : 0 ≤ x ∧ x < A 0 3) (hb : 0 ≤ b ∧ b ≤ 90) (Q : Int → Mem → Prop) : ∀ (n : Nat) (k a : Int), 0 ≤ k → k + n = A 0 5 → Q (fr_ (fun k => pt A (A 9 k) x b) n k a) (mset s 0 0 0) → EV (d + 4) o_M_from 29 [] [0, x, b, a, k] s Q := by
  have e5 : s 37 5 = A 0 5 := by rw [hA]; rfl
  have e3 : s 37 3 = A 0 3 := by rw [hA]; rfl
  have h1 := hv.1
  unfold VC at h1
  intro n
  induction n with
  | zero =>
    intro k a h0 hk' hq
    rw [e_M_from_29]
    simp (disch := first | assumption | omega) only [rn, wk, al, wr_e, td_e, tm_e, mset_eq, mset_ne, if_pos, if_neg, Int.reduceAdd, Int.reduceSub, Int.reduceMul, Int.reduceNeg, Int.reduceLT, Int.reduceLE, Int.reduceEq, Int.cast_ofNat_Int, eq_self, and_true, true_and, ite_self, true_or, or_true, false_or, or_false, and_false, false_and, not_true_eq_false, not_false_eq_true, if_true, if_false, e_M_from_0, e_M_from_18, e_M_from_24, e_M_from_62, e_M_from_68, q_pass, e5]
    exact hq
  | succ n ih =>
    intro k a h0 hk' hq
    have q : sem (d + 4) 129 [37, k, x, b] s = some (pt A (A 9 k) x b, s) := by
      have := q_amountAt (d + 1) isH37 s k x b (by rw [← hA]; exact hv) (by omega) (by have := hk k (by omega); rw [hA] at this; exact this) (by omega) hb
      rw [hA]; exact this
    unfold fr_ at hq
    rw [e_M_from_29]
    by_cases c : 0 < pt A (A 9 k) x b
    · simp only [if_pos c] at hq
      simp (disch := first | assumption | omega) only [rn, wk, al, wr_e, td_e, tm_e, mset_eq, mset_ne, if_pos, if_neg, Int.reduceAdd, Int.reduceSub, Int.reduceMul, Int.reduceNeg, Int.reduceLT, Int.reduceLE, Int.reduceEq, Int.cast_ofNat_Int, eq_self, and_true, true_and, ite_self, true_or, or_true, false_or, or_false, and_false, false_and, not_true_eq_false, not_false_eq_true, if_true, if_false, e_M_from_0, e_M_from_18, e_M_from_24, e_M_from_62, e_M_from_68, q, e5]
      exact ih (k + 1) _ (by omega) (by omega) hq
    · simp only [if_neg c] at hq
      simp (disch := first | assumption | omega) only [rn, wk, al, wr_e, td_e, tm_e, mset_eq, mset_ne, if_pos, if_neg, Int.reduceAdd, Int.reduceSub, Int.reduceMul, Int.reduceNeg, Int.reduceLT, Int.reduceLE, Int.reduceEq, Int.cast_ofNat_Int, eq_self, and_true, true_and, ite_self, true_or, or_true, false_or, or_false, and_false, false_and, not_true_eq_false, not_false_eq_true, if_true, if_false, e_M_from_0, e_M_from_18, e_M_from_24, e_M_from_62, e_M_from_68, q, e5]
      exact ih (k + 1) _ (by omega) (by omega) hq
theorem lp_Rfrom (d : Nat) (A s : Mem) (x b : Int) (h : RB A s) (hk : RK A (s 138)) (hx : 0 ≤ x ∧ x < A 0 3) (hb : 0 ≤ b ∧ b ≤ 90) (Q : Int → Mem → Prop) : ∀ (n : Nat) (k a : Int), 0 ≤ k → k + n = A 0 5 → in32 a → Q (fr_ (fun k => pt A (A 9 k) x b) n k a) (mset s 137 2 0) → EV (d + 4) o_R_from 30 [] [137, x, b, a, k] s Q := by
  have e5 : s 138 4 = A 0 5 := h.2.1.2.2.2.2.1
  have h1 := h.1.1
  unfold VC at h1
  intro n
  induction n with
  | zero =>
    intro k a h0 hk' ha hq
    rw [e_R_from_30]
    simp (disch := first | assumption | omega) only [rn, wk, al, wr_e, td_e, tm_e, mset_eq, mset_ne, if_pos, if_neg, Int.reduceAdd, Int.reduceSub, Int.reduceMul, Int.reduceNeg, Int.reduceLT, Int.reduceLE, Int.reduceEq, Int.cast_ofNat_Int, eq_self, and_true, true_and, ite_self, true_or, or_true, false_or, or_false, and_false, false_and, not_true_eq_false, not_false_eq_true, if_true, if_false, e_R_from_0, e_R_from_15, e_R_from_21, e_R_from_60, e_R_from_61, e_R_from_69, q_gives, e5]
    exact hq
  | succ n ih =>
    intro k a h0 hk' ha hq
    have q := q_partOf d A s h hk k x b (by omega) hx hb
    unfold fr_ at hq
    rw [e_R_from_30]
    by_cases c : 0 < pt A (A 9 k) x b
    · simp only [if_pos c] at hq
      simp (disch := first | assumption | omega) only [rn, wk, al, wr_e, td_e, tm_e, mset_eq, mset_ne, if_pos, if_neg, Int.reduceAdd, Int.reduceSub, Int.reduceMul, Int.reduceNeg, Int.reduceLT, Int.reduceLE, Int.reduceEq, Int.cast_ofNat_Int, eq_self, and_true, true_and, ite_self, true_or, or_true, false_or, or_false, and_false, false_and, not_true_eq_false, not_false_eq_true, if_true, if_false, e_R_from_0, e_R_from_15, e_R_from_21, e_R_from_60, e_R_from_61, e_R_from_69, q, e5]
      exact ih (k + 1) _ (by omega) (by omega) (ior_in' _ _) hq
    · simp only [if_neg c] at hq
      simp (disch := first | assumption | omega) only [rn, wk, al, wr_e, td_e, tm_e, mset_eq, mset_ne, if_pos, if_neg, Int.reduceAdd, Int.reduceSub, Int.reduceMul, Int.reduceNeg, Int.reduceLT, Int.reduceLE, Int.reduceEq, Int.cast_ofNat_Int, eq_self, and_true, true_and, ite_self, true_or, or_true, false_or, or_false, and_false, false_and, not_true_eq_false, not_false_eq_true, if_true, if_false, e_R_from_0, e_R_from_15, e_R_from_21, e_R_from_60, e_R_from_61, e_R_from_69, q, e5, ior_0 ha]
      exact ih (k + 1) _ (by omega) (by omega) ha hq
theorem ak_from (d : Nat) (x b : Int) : Ak (d + 30) 130 309 [x, b] := by
  apply ak_of; intro s hi
  have hc := inv_c hi
  have hr := inv_rc hi
  have hv := VB_of (inv_va hi)
  have hk := vKs_of hi.2.2.2.2.1
  by_cases c1 : (0 ≤ x ∧ x < s 37 3) ∧ 0 ≤ b ∧ b ≤ 90
  · apply c_M_from
    simp (disch := first | assumption | omega) only [rn, wk, al, wr_e, td_e, tm_e, mset_eq, mset_ne, if_pos, if_neg, Int.reduceAdd, Int.reduceSub, Int.reduceMul, Int.reduceNeg, Int.reduceLT, Int.reduceLE, Int.reduceEq, Int.cast_ofNat_Int, eq_self, and_true, true_and, ite_self, true_or, or_true, false_or, or_false, and_false, false_and, not_true_eq_false, not_false_eq_true, if_true, if_false, e_M_from_0, e_M_from_18, e_M_from_24, e_M_from_62, e_M_from_68, q_hasSlate, q_isBeat]
    refine lp_Mfrom _ (win s 37) s rfl x b hv hk c1.1 c1.2 _ (s 37 5).toNat 0 0 (by omega) (show (0 : Int) + ((s 37 5).toNat : Nat) = s 37 5 by omega) ?_
    apply c_R_from
    simp (disch := first | assumption | omega) only [rn, wk, al, wr_e, td_e, tm_e, mset_eq, mset_ne, if_pos, if_neg, Int.reduceAdd, Int.reduceSub, Int.reduceMul, Int.reduceNeg, Int.reduceLT, Int.reduceLE, Int.reduceEq, Int.cast_ofNat_Int, eq_self, and_true, true_and, ite_self, true_or, or_true, false_or, or_false, and_false, false_and, not_true_eq_false, not_false_eq_true, if_true, if_false, e_R_from_0, e_R_from_15, e_R_from_60, e_R_from_61, e_R_from_69, q_isSlate, q_RisBeat]
    rw [e_R_from_21]
    simp (disch := first | assumption | omega) only [rn, wk, al, wr_e, td_e, tm_e, mset_eq, mset_ne, if_pos, if_neg, Int.reduceAdd, Int.reduceSub, Int.reduceMul, Int.reduceNeg, Int.reduceLT, Int.reduceLE, Int.reduceEq, Int.cast_ofNat_Int, eq_self, and_true, true_and, ite_self, true_or, or_true, false_or, or_false, and_false, false_and, not_true_eq_false, not_false_eq_true, if_true, if_false]
    refine EV_call (CV_mono (far_nf hi _ (t := mset s 0 0 0) (mset_nc (by omega))) ?_)
    rintro r u ⟨u1, u2⟩
    have e138 : u 138 = s 138 := by funext i; rw [u1 _ _ (by omega), mset_ne (by omega)]
    have hH := hi.2.2.2.2.1
    have hR : RB (win s 37) u := ⟨hv, by rw [e138]; exact hH.2.1, by rw [e138]; exact hH.2.2.2.1, by rw [e138]; exact hH.2.2.2.2.1, u2⟩
    refine lp_Rfrom _ (win s 37) u x b hR (by rw [e138]; exact hH.2.2.2.2.2.1) c1.1 c1.2 _ (s 37 5).toNat 0 0 (by omega) (show (0 : Int) + ((s 37 5).toNat : Nat) = s 37 5 by omega) (by unfold in32; omega) ?_
    refine ⟨rfl, inv_sums 0 hi (Fx_refl s 2) rfl ?_⟩
    intro c i a b e
    exact u1 c i b
  · apply c_M_from
    simp (disch := first | assumption | omega) only [rn, wk, al, wr_e, td_e, tm_e, mset_eq, mset_ne, if_pos, if_neg, Int.reduceAdd, Int.reduceSub, Int.reduceMul, Int.reduceNeg, Int.reduceLT, Int.reduceLE, Int.reduceEq, Int.cast_ofNat_Int, eq_self, and_true, true_and, ite_self, true_or, or_true, false_or, or_false, and_false, false_and, not_true_eq_false, not_false_eq_true, if_true, if_false, e_M_from_0, e_M_from_18, e_M_from_24, e_M_from_62, e_M_from_68, q_hasSlate, q_isBeat, q_fail]
    repeat' split
    all_goals
      apply c_R_from
      simp (disch := first | assumption | omega) only [rn, wk, al, wr_e, td_e, tm_e, mset_eq, mset_ne, if_pos, if_neg, Int.reduceAdd, Int.reduceSub, Int.reduceMul, Int.reduceNeg, Int.reduceLT, Int.reduceLE, Int.reduceEq, Int.cast_ofNat_Int, eq_self, and_true, true_and, ite_self, true_or, or_true, false_or, or_false, and_false, false_and, not_true_eq_false, not_false_eq_true, if_true, if_false, e_R_from_0, e_R_from_15, e_R_from_21, e_R_from_60, e_R_from_61, e_R_from_69, q_isSlate, q_RisBeat, q_refuse]
      repeat' split
      all_goals first | exact inv_st 1 hi | omega
theorem VB_pt {A A' : Mem} (h0 : ∀ i, 0 ≤ i → i ≤ 5 → A' 0 i = A 0 i) (h6 : 0 ≤ A' 0 6 ∧ A' 0 6 ≤ 1) (h : ∀ k, 0 < k → k < 20 → k ≠ 10 → A' k = A k) (hv : VB A) : VB A' := by
  have e2 := h 2 (by omega) (by omega) (by omega)
  have e3 := h 3 (by omega) (by omega) (by omega)
  have e4 := h 4 (by omega) (by omega) (by omega)
  have e5 := h 5 (by omega) (by omega) (by omega)
  have e6 := h 6 (by omega) (by omega) (by omega)
  have e7 := h 7 (by omega) (by omega) (by omega)
  have e8 := h 8 (by omega) (by omega) (by omega)
  have e11 := h 11 (by omega) (by omega) (by omega)
  have f0 := h0 0 (by omega) (by omega)
  have f1 := h0 1 (by omega) (by omega)
  have f2 := h0 2 (by omega) (by omega)
  have f3 := h0 3 (by omega) (by omega)
  have f4 := h0 4 (by omega) (by omega)
  have f5 := h0 5 (by omega) (by omega)
  obtain ⟨h1, h2, h3, h4⟩ := hv
  have hk : ∀ n a b x y, wk_ A' n a b x y = wk_ A n a b x y := wkeep_wk f2 e2 e3 e4
  have hd : ∀ a b x y, dst A' a b x y = dst A a b x y := by
    intro a b x y; unfold dst; simp only [hk]
  refine ⟨?_, ?_, ?_, ?_⟩
  · unfold VC at h1 ⊢; rw [f0, f1, f2, f3, f4, f5]; exact ⟨h1.1, h1.2.1, h1.2.2.1, h1.2.2.2.1, h1.2.2.2.2.1, h1.2.2.2.2.2.1, h6⟩
  · unfold VS at h2 ⊢; rw [f1, f3, e5]; exact h2
  · unfold VL at h3 ⊢; rw [f1, f4, e6, e7, e8]; exact h3
  · unfold VN at h4 ⊢; simp only [hk, hd, f1, e11]; exact h4
theorem tO_congr {A A' : Mem} (h5 : A' 0 5 = A 0 5) (h : ∀ k, 0 < k → k < 20 → k ≠ 10 → A' k = A k) (x : Int) : tO A' x = tO A x := by
  unfold tO aS aP dP
  rw [h5, h 9 (by omega) (by omega) (by omega), h 5 (by omega) (by omega) (by omega), h 11 (by omega) (by omega) (by omega), h 6 (by omega) (by omega) (by omega), h 8 (by omega) (by omega) (by omega)]
theorem vKs_pt {A A' : Mem} (h0 : ∀ i, 0 ≤ i → i ≤ 5 → A' 0 i = A 0 i) (h : ∀ k, 0 < k → k < 20 → k ≠ 10 → A' k = A k) (hv : vKs A) : vKs A' := by
  unfold vKs vK vQ at hv ⊢
  rw [h0 5 (by omega) (by omega), h0 4 (by omega) (by omega), h 7 (by omega) (by omega) (by omega), h 9 (by omega) (by omega) (by omega)]
  exact hv
theorem q_keepSums (d : Nat) {h : Int} (hh : isH h) (s : Mem) (hv : VB (win s h)) (hvk : vKs (win s h)) : CV (d + 5) 112 [h] s fun _ u => (∀ c i, c ≠ h + 10 → ¬ (c = h ∧ i = 6) → u c i = s c i) ∧ u h 6 = 1 ∧ ∀ x b, 0 ≤ x ∧ x < 4 → 0 ≤ b ∧ b < 91 → u (h + 10) (4 * b + x) = if x < s h 3 then sb (win s h) x b else 0 := by
  apply c_Hall_keepSums
  simp (disch := first | assumption | omega) only [rn, wk, al, wr_e, td_e, tm_e, mset_eq, mset_ne, if_pos, if_neg, Int.reduceAdd, Int.reduceSub, Int.reduceMul, Int.reduceNeg, Int.reduceLT, Int.reduceLE, Int.reduceEq, Int.cast_ofNat_Int, eq_self, and_true, true_and, ite_self, true_or, or_true, false_or, or_false, and_false, false_and, not_true_eq_false, not_false_eq_true, if_true, if_false, e_Hall_keepSums_0]
  have hX : alen (h + 10) = 364 := by rcases hh with rfl | rfl | rfl | rfl | rfl <;> rfl
  refine EV_call (CV_mono (q_writeSums d hh (h + 10) hX (Or.inl rfl) s hv hvk) ?_)
  rintro r u ⟨u1, u2⟩
  simp (disch := first | assumption | omega) only [rn, wk, al, wr_e, td_e, tm_e, mset_eq, mset_ne, if_pos, if_neg, Int.reduceAdd, Int.reduceSub, Int.reduceMul, Int.reduceNeg, Int.reduceLT, Int.reduceLE, Int.reduceEq, Int.cast_ofNat_Int, eq_self, and_true, true_and, ite_self, true_or, or_true, false_or, or_false, and_false, false_and, not_true_eq_false, not_false_eq_true, if_true, if_false]
  refine ⟨?_, ?_⟩
  · intro c i a b
    try rw [mset_ne (by omega)]
    exact u1 c i a
  · intro x b hx hb
    try rw [mset_ne (by omega)]
    exact u2 x b hx hb
theorem lp_allSums (d : Nat) (u : Mem) (hb : ∀ j, 0 ≤ j ∧ j < 364 → 0 ≤ u 147 j ∧ u 147 j ≤ 1000) (Q : Int → Mem → Prop) : ∀ (n : Nat) (k a : Int), 0 ≤ k → k + n = 364 → (0 ≤ a ∧ a ≤ 1000 * k) → Q (a + sg (u 147) k n) u → EV d o_R_allSums 8 [] [137, a, k] u Q := by
  intro n
  induction n with
  | zero =>
    intro k a h0 hk ha hq
    have : a + sg (u 147) k 0 = a := Int.add_zero a
    rw [this] at hq
    rw [e_R_allSums_8]
    simp (disch := first | assumption | omega) only [rn, wk, al, wr_e, td_e, tm_e, mset_eq, mset_ne, if_pos, if_neg, Int.reduceAdd, Int.reduceSub, Int.reduceMul, Int.reduceNeg, Int.reduceLT, Int.reduceLE, Int.reduceEq, Int.cast_ofNat_Int, eq_self, and_true, true_and, ite_self, true_or, or_true, false_or, or_false, and_false, false_and, not_true_eq_false, not_false_eq_true, if_true, if_false, e_R_allSums_0, e_R_allSums_30]
    exact hq
  | succ n ih =>
    intro k a h0 hk ha hq
    have := hb k (by omega)
    rw [e_R_allSums_8]
    simp (disch := first | assumption | omega) only [rn, wk, al, wr_e, td_e, tm_e, mset_eq, mset_ne, if_pos, if_neg, Int.reduceAdd, Int.reduceSub, Int.reduceMul, Int.reduceNeg, Int.reduceLT, Int.reduceLE, Int.reduceEq, Int.cast_ofNat_Int, eq_self, and_true, true_and, ite_self, true_or, or_true, false_or, or_false, and_false, false_and, not_true_eq_false, not_false_eq_true, if_true, if_false, e_R_allSums_0, e_R_allSums_30]
    refine ih (k + 1) (a + u 147 k) (by omega) (by omega) (by omega) ?_
    rw [Int.add_assoc]
    exact hq
theorem q_allSums (d : Nat) (A s : Mem) (h : RA A s) (hk : vKs A) : CV (d + 7) 298 [137] s fun r u => r = sg (tO A) 0 (A 0 3).toNat ∧ lsP A s u := by
  have hv : VB A := ⟨h.1.1, h.1.2.2.1, h.1.2.2.2.1, h.1.2.2.2.2⟩
  have h1 := h.1.1
  unfold VC at h1
  apply c_R_allSums
  simp (disch := first | assumption | omega) only [rn, wk, al, wr_e, td_e, tm_e, mset_eq, mset_ne, if_pos, if_neg, Int.reduceAdd, Int.reduceSub, Int.reduceMul, Int.reduceNeg, Int.reduceLT, Int.reduceLE, Int.reduceEq, Int.cast_ofNat_Int, eq_self, and_true, true_and, ite_self, true_or, or_true, false_or, or_false, and_false, false_and, not_true_eq_false, not_false_eq_true, if_true, if_false, e_R_allSums_0, e_R_allSums_30]
  refine EV_call (CV_mono (q_laysSums d A s h) ?_)
  rintro r u hu
  have hu4 := hu.2.2.2
  refine lp_allSums _ u ?_ _ 364 0 0 (by omega) (by omega) (by omega) ⟨?_, hu⟩
  · intro j hj
    have q := hu4 (j / 91) (j % 91) (by omega) (by omega)
    rw [show 91 * (j / 91) + j % 91 = j by omega] at q
    rw [q]
    by_cases c : j / 91 < A 0 3
    · have := sb_ok hv hk (j % 91) (x := j / 91) (by omega)
      rw [if_pos c]; omega
    · rw [if_neg c]; omega
  · rw [Int.zero_add]
    have e := sg_blk (u 147) 91 4
    rw [show 91 * 4 = 364 from rfl] at e
    rw [e]
    obtain ⟨n, hn⟩ : ∃ n : Nat, A 0 3 = n := ⟨(A 0 3).toNat, by omega⟩
    rw [hn, show ((n : Int)).toNat = n by omega, show (4 : Nat) = n + (4 - n) by omega, sg_plus]
    rw [sg_zero (4 - n) _ _ (fun x a b => sg_zero 91 0 _ (fun b' c d => by
      have := hu4 x b' (by omega) (by omega)
      rw [if_neg (by omega)] at this; exact this)), Int.add_zero]
    apply sg_congr
    intro x a b
    rw [← sb_sum hv hk (x := x) (by omega)]
    apply sg_congr
    intro b' c d
    have := hu4 x b' (by omega) (by omega)
    rw [if_pos (by omega)] at this; exact this
theorem HR_rec {A A' : Mem} {B B' N N' : Int → Int} (hr : HR A B N)
    (hA : ∀ k i, 0 ≤ k ∧ k < 20 → 0 ≤ i ∧ i < ln k → ¬ (k = 0 ∧ i = 6) → ¬ (k = 10) → A' k i = A k i) (h6 : A' 0 6 = 1) (hs : ∀ x b, 0 ≤ x ∧ x < 4 → 0 ≤ b ∧ b < 91 → (0 ≤ A' 10 (4 * b + x) ∧ A' 10 (4 * b + x) ≤ 999) ∧ (A 0 3 ≤ x → A' 10 (4 * b + x) = 0))
    (hB : ∀ i, 0 ≤ i → i < 868 → i ≠ 6 → ¬ (134 ≤ i ∧ i < 498) → B' i = B i) (b6 : B' 6 = 1) (b0 : ∀ x b, 0 ≤ x ∧ x < 4 → 0 ≤ b ∧ b < 91 → B' (134 + 91 * x + b) = A' 10 (4 * b + x))
    (hN : ∀ i, 0 ≤ i → i < 16 → N' i = N i) : HR A' B' N' := by
  have hr1 := hr.1.1
  unfold VC at hr1
  have hr2 : HR (mset (fun k i => if k = 10 then A 10 i else A' k i) 0 6 (A 0 6)) (fun i => if i = 6 ∨ (134 ≤ i ∧ i < 498) then B i else B' i) N' := by
    refine HR_congr ?_ ?_ hN hr
    · intro k i h1 h2
      by_cases e : k = 0 ∧ i = 6
      · obtain ⟨rfl, rfl⟩ := e
        simp (disch := omega) only [mset_eq]
      · by_cases e2 : k = 10
        · subst e2
          simp (disch := omega) only [mset_ne, if_pos, if_true]
        · simp (disch := omega) only [mset_ne, if_neg]
          exact hA k i h1 h2 e e2
    · intro i h1 h2
      by_cases e : i = 6 ∨ (134 ≤ i ∧ i < 498)
      · simp only [if_pos e]
      · simp only [if_neg e]
        exact hB i h1 h2 (by omega) (by omega)
  have g : ∀ i, 0 ≤ i → i ≤ 5 → A' 0 i = A 0 i := fun i h1 h2 => hA 0 i (by omega) ⟨h1, show i < 7 by omega⟩ (by omega) (by omega)
  have g0 := g 0 (by omega) (by omega)
  have g1 := g 1 (by omega) (by omega)
  have g2 := g 2 (by omega) (by omega)
  have g3 := g 3 (by omega) (by omega)
  have g4 := g 4 (by omega) (by omega)
  have g5 := g 5 (by omega) (by omega)
  refine ⟨⟨?_, wkeep_VW hr2 (by intros; simp (disch := omega) only [mset_nc, mset_ne, if_neg]) (by intros; simp (disch := omega) only [mset_nc, mset_ne, if_neg]) (by intros; simp (disch := omega) only [mset_nc, mset_ne, if_neg]) (by intros; simp (disch := omega) only [mset_nc, mset_ne, if_neg]) (by intros; simp (disch := omega) only [mset_nc, mset_ne, if_neg]), wkeep_VS hr2 (by intros; simp (disch := omega) only [mset_nc, mset_ne, if_neg]) (by intros; simp (disch := omega) only [mset_nc, mset_ne, if_neg]) (by intros; simp (disch := omega) only [mset_nc, mset_ne, if_neg]), wkeep_VL hr2 (by intros; simp (disch := omega) only [mset_nc, mset_ne, if_neg]) (by intros; simp (disch := omega) only [mset_nc, mset_ne, if_neg]) (by intros; simp (disch := omega) only [mset_nc, mset_ne, if_neg]) (by intros; simp (disch := omega) only [mset_nc, mset_ne, if_neg]) (by intros; simp (disch := omega) only [mset_nc, mset_ne, if_neg]), ?_, wkeep_VN hr2 (by intros; simp (disch := omega) only [mset_nc, mset_ne, if_neg]) (by intros; simp (disch := omega) only [mset_nc, mset_ne, if_neg]) (by intros; simp (disch := omega) only [mset_nc, mset_ne, if_neg]) (by intros; simp (disch := omega) only [mset_nc, mset_ne, if_neg]) (by intros; simp (disch := omega) only [mset_nc, mset_ne, if_neg]) (by intros; simp (disch := omega) only [mset_nc, mset_ne, if_neg]), wkeep_VT hr2 (by intros; simp (disch := omega) only [mset_nc, mset_ne, if_neg]) (by intros; simp (disch := omega) only [mset_nc, mset_ne, if_neg]) (by intros; simp (disch := omega) only [mset_nc, mset_ne, if_neg]) (by intros; simp (disch := omega) only [mset_nc, mset_ne, if_neg])⟩, ?_, wkeep_RW hr2 (by intros; simp (disch := omega) only [mset_nc, mset_ne, if_neg]) (by intros; simp (disch := omega) only [mset_nc, mset_ne, if_neg]) (by intros; simp (disch := omega) only [mset_nc, mset_ne, if_neg]) (by intros; simp (disch := omega) only [mset_nc, mset_ne, if_neg]) (by intros; simp (disch := omega) only [mset_nc, mset_ne, if_neg]), wkeep_RS hr2 (by intros; simp (disch := omega) only [mset_nc, mset_ne, if_neg]) (by intros; simp (disch := omega) only [mset_nc, mset_ne, if_neg]) (by intros; simp (disch := omega) only [mset_nc, mset_ne, if_neg]), wkeep_RL hr2 (by intros; simp (disch := omega) only [mset_nc, mset_ne, if_neg]) (by intros; simp (disch := omega) only [mset_nc, mset_ne, if_neg]) (by intros; simp (disch := omega) only [mset_nc, mset_ne, if_neg]) (by intros; simp (disch := omega) only [mset_nc, mset_ne, if_neg]) (by intros; simp (disch := omega) only [mset_nc, mset_ne, if_neg]), wkeep_RK hr2 (by intros; simp (disch := omega) only [mset_nc, mset_ne, if_neg]) (by intros; simp (disch := omega) only [mset_nc, mset_ne, if_neg]) (by intros; simp (disch := omega) only [mset_nc, mset_ne, if_neg]) (by intros; simp (disch := omega) only [mset_nc, mset_ne, if_neg]) (by intros; simp (disch := omega) only [mset_nc, mset_ne, if_neg]), ?_, wkeep_RN hr2 (by intros; simp (disch := omega) only [mset_nc, mset_ne, if_neg]) (by intros; simp (disch := omega) only [mset_nc, mset_ne, if_neg]) (by intros; simp (disch := omega) only [mset_nc, mset_ne, if_neg]) (by intros; simp (disch := omega) only [mset_nc, mset_ne, if_neg]) (by intros; simp (disch := omega) only [mset_nc, mset_ne, if_neg]), wkeep_RT hr2 (by intros; simp (disch := omega) only [mset_nc, mset_ne, if_neg]) (by intros; simp (disch := omega) only [mset_nc, mset_ne, if_neg]) (by intros; simp (disch := omega) only [mset_nc, mset_ne, if_neg])⟩
  · unfold VC
    omega
  · intro _ x b hx hb
    rw [g3]
    exact hs x b hx hb
  · have hc2 := hr2.2.1
    unfold RC at hc2 ⊢
    simp (disch := omega) only [mset_ne, mset_eq, if_neg, if_pos] at hc2
    omega
  · intro _ x b hx hb
    exact b0 x b hx hb
