/-! ===== H2: hush ===== -/
/-- a stretch of a cell taken from m places further on -/
def shl (s : Mem) (a lo hi m : Int) : Mem := fun b => if b = a then (fun j => if lo ≤ j ∧ j < hi then s a (j + m) else s a j) else s b
theorem shl_in {s : Mem} {a lo hi m b j : Int} (h1 : b = a) (h2 : lo ≤ j ∧ j < hi) : shl s a lo hi m b j = s a (j + m) := by unfold shl; rw [if_pos h1, if_pos h2]
theorem shl_out {s : Mem} {a lo hi m b j : Int} (h : ¬ (b = a ∧ lo ≤ j ∧ j < hi)) : shl s a lo hi m b j = s b j := by
  unfold shl
  by_cases h1 : b = a
  · rw [if_pos h1, if_neg (fun h2 => h ⟨h1, h2⟩), h1]
  · rw [if_neg h1]
theorem shl_nil {s : Mem} {a lo m : Int} : shl s a lo lo m = s := by
  funext b j
  exact shl_out (by omega)
theorem shl_step {s : Mem} {a lo hi m : Int} (h : lo ≤ hi) : mset (shl s a lo hi m) a hi (s a (hi + m)) = shl s a lo (hi + 1) m := by
  funext b j
  by_cases e : b = a
  · subst e
    by_cases e2 : j = hi
    · subst e2; rw [mset_eq rfl rfl, shl_in rfl (by omega)]
    · rw [mset_ne (by omega)]
      by_cases e3 : lo ≤ j ∧ j < hi
      · rw [shl_in rfl e3, shl_in rfl (by omega)]
      · rw [shl_out (by omega), shl_out (by omega)]
  · rw [mset_ne (by omega), shl_out (by omega), shl_out (by omega)]
theorem lp_strike (d : Nat) {h : Int} (hh : isH h) (s : Mem) (c : Int) (hc : 0 ≤ c ∧ c < s h 5) (h5 : s h 5 ≤ 8) (Q : Int → Mem → Prop) (hq : EV d o_Hall_strike 32 [] [h, c, s h 5 - 1] (shl s (h + 9) c (s h 5 - 1) 1) Q) : ∀ (n : Nat) (k : Int), c ≤ k → k + n + 1 = s h 5 → EV d o_Hall_strike 2 [] [h, c, k] (shl s (h + 9) c k 1) Q := by
  intro n
  induction n with
  | zero =>
    intro k h0 hk
    have e : k = s h 5 - 1 := by omega
    subst e
    rw [e_Hall_strike_2]
    simp (disch := first | assumption | omega) only [rn, wk, al, wr_e, td_e, tm_e, mset_eq, mset_ne, if_pos, if_neg, Int.reduceAdd, Int.reduceSub, Int.reduceMul, Int.reduceNeg, Int.reduceLT, Int.reduceLE, Int.reduceEq, Int.cast_ofNat_Int, eq_self, and_true, true_and, ite_self, true_or, or_true, false_or, or_false, and_false, false_and, not_true_eq_false, not_false_eq_true, if_true, if_false, ah hh, shl_out]
    exact hq
  | succ n ih =>
    intro k h0 hk
    rw [e_Hall_strike_2]
    simp (disch := first | assumption | omega) only [rn, wk, al, wr_e, td_e, tm_e, mset_eq, mset_ne, if_pos, if_neg, Int.reduceAdd, Int.reduceSub, Int.reduceMul, Int.reduceNeg, Int.reduceLT, Int.reduceLE, Int.reduceEq, Int.cast_ofNat_Int, eq_self, and_true, true_and, ite_self, true_or, or_true, false_or, or_false, and_false, false_and, not_true_eq_false, not_false_eq_true, if_true, if_false, ah hh, shl_out, shl_step]
    exact ih (k + 1) (by omega) (by omega)
theorem q_strike (d : Nat) {h : Int} (hh : isH h) (s : Mem) (c : Int) (hc : 0 ≤ c ∧ c < s h 5) (h5 : s h 5 ≤ 8) : sem (d + 1) 103 [h, c] s = some (0, mset (shl s (h + 9) c (s h 5 - 1) 1) h 5 (s h 5 - 1)) := by
  apply CV_eq; apply c_Hall_strike
  simp (disch := first | assumption | omega) only [rn, wk, al, wr_e, td_e, tm_e, mset_eq, mset_ne, if_pos, if_neg, Int.reduceAdd, Int.reduceSub, Int.reduceMul, Int.reduceNeg, Int.reduceLT, Int.reduceLE, Int.reduceEq, Int.cast_ofNat_Int, eq_self, and_true, true_and, ite_self, true_or, or_true, false_or, or_false, and_false, false_and, not_true_eq_false, not_false_eq_true, if_true, if_false, e_Hall_strike_0, e_Hall_strike_32]
  have hx := lp_strike d hh s c hc h5 (fun a b => a = 0 ∧ b = mset (shl s (h + 9) c (s h 5 - 1) 1) h 5 (s h 5 - 1)) ?_ (s h 5 - 1 - c).toNat c (by omega) (by omega)
  · rw [shl_nil] at hx; exact hx
  · simp (disch := first | assumption | omega) only [rn, wk, al, wr_e, td_e, tm_e, mset_eq, mset_ne, if_pos, if_neg, Int.reduceAdd, Int.reduceSub, Int.reduceMul, Int.reduceNeg, Int.reduceLT, Int.reduceLE, Int.reduceEq, Int.cast_ofNat_Int, eq_self, and_true, true_and, ite_self, true_or, or_true, false_or, or_false, and_false, false_and, not_true_eq_false, not_false_eq_true, if_true, if_false, e_Hall_strike_0, e_Hall_strike_32, shl_out]
theorem lp_hushes (d : Nat) (s : Mem) (c : Int) (hc : 0 ≤ c ∧ c ≤ s 138 4) (h4 : s 138 4 < 8) (Q : Int → Mem → Prop) (hq : Q 1 (shl s 138 (109 + 3 * c) (109 + 3 * s 138 4) 3)) : ∀ (n : Nat) (k : Int), 109 + 3 * c ≤ k → k + n = 109 + 3 * s 138 4 → EV (d + 1) o_R_hushes 31 [] [137, c, k] (shl s 138 (109 + 3 * c) k 3) Q := by
  intro n
  induction n with
  | zero =>
    intro k h0 hk
    rw [e_R_hushes_31]
    simp (disch := first | assumption | omega) only [rn, wk, al, wr_e, td_e, tm_e, mset_eq, mset_ne, if_pos, if_neg, Int.reduceAdd, Int.reduceSub, Int.reduceMul, Int.reduceNeg, Int.reduceLT, Int.reduceLE, Int.reduceEq, Int.cast_ofNat_Int, eq_self, and_true, true_and, ite_self, true_or, or_true, false_or, or_false, and_false, false_and, not_true_eq_false, not_false_eq_true, if_true, if_false, e_R_hushes_0, e_R_hushes_14, e_R_hushes_16, e_R_hushes_64, q_callRow, shl_out]
    rw [← (by omega : k = 109 + 3 * s 138 4)] at hq
    exact hq
  | succ n ih =>
    intro k h0 hk
    rw [e_R_hushes_31]
    simp (disch := first | assumption | omega) only [rn, wk, al, wr_e, td_e, tm_e, mset_eq, mset_ne, if_pos, if_neg, Int.reduceAdd, Int.reduceSub, Int.reduceMul, Int.reduceNeg, Int.reduceLT, Int.reduceLE, Int.reduceEq, Int.cast_ofNat_Int, eq_self, and_true, true_and, ite_self, true_or, or_true, false_or, or_false, and_false, false_and, not_true_eq_false, not_false_eq_true, if_true, if_false, q_callRow, shl_out, shl_step]
    exact ih (k + 1) (by omega) (by omega)
theorem q_hushes_ok (d : Nat) (s : Mem) (c : Int) (hc : 0 ≤ c ∧ c < s 138 4) (h4 : s 138 4 ≤ 8) : sem (d + 2) 289 [137, c] s = some (1, shl (mset s 138 4 (s 138 4 - 1)) 138 (109 + 3 * c) (109 + 3 * (s 138 4 - 1)) 3) := by
  apply CV_eq; apply c_R_hushes
  simp (disch := first | assumption | omega) only [rn, wk, al, wr_e, td_e, tm_e, mset_eq, mset_ne, if_pos, if_neg, Int.reduceAdd, Int.reduceSub, Int.reduceMul, Int.reduceNeg, Int.reduceLT, Int.reduceLE, Int.reduceEq, Int.cast_ofNat_Int, eq_self, and_true, true_and, ite_self, true_or, or_true, false_or, or_false, and_false, false_and, not_true_eq_false, not_false_eq_true, if_true, if_false, e_R_hushes_0, e_R_hushes_14, e_R_hushes_16, e_R_hushes_64, q_callRow]
  have hx := lp_hushes d (mset s 138 4 (s 138 4 - 1)) c (by rw [mset_eq rfl rfl]; omega) (by rw [mset_eq rfl rfl]; omega) (fun a b => a = 1 ∧ b = shl (mset s 138 4 (s 138 4 - 1)) 138 (109 + 3 * c) (109 + 3 * (s 138 4 - 1)) 3) ?_ (3 * (s 138 4 - 1 - c)).toNat (109 + 3 * c) (by omega) (by rw [mset_eq rfl rfl]; omega)
  · rw [shl_nil] at hx; exact hx
  · rw [mset_eq rfl rfl]; exact ⟨rfl, rfl⟩
theorem q_hushes_no (d : Nat) (s : Mem) (c : Int) (hc : ¬ (0 ≤ c ∧ c < s 138 4)) : sem (d + 2) 289 [137, c] s = some (0, s) := by
  apply CV_eq; apply c_R_hushes
  simp (disch := first | assumption | omega) only [rn, wk, al, wr_e, td_e, tm_e, mset_eq, mset_ne, if_pos, if_neg, Int.reduceAdd, Int.reduceSub, Int.reduceMul, Int.reduceNeg, Int.reduceLT, Int.reduceLE, Int.reduceEq, Int.cast_ofNat_Int, eq_self, and_true, true_and, ite_self, true_or, or_true, false_or, or_false, and_false, false_and, not_true_eq_false, not_false_eq_true, if_true, if_false, e_R_hushes_0, e_R_hushes_14, e_R_hushes_16, e_R_hushes_64, q_callRow]
  repeat' split
  all_goals first | trivial | omega
theorem HR_hush {A A' : Mem} {B B' N N' : Int → Int} {c n : Int} (hr : HR A B N) (hn : n = A 0 5) (hc : 0 ≤ c ∧ c < n)
    (hA : ∀ k i, 0 ≤ k ∧ k < 20 → 0 ≤ i ∧ i < ln k → ¬ (k = 0 ∧ i = 5) → ¬ (k = 9) → A' k i = A k i) (h5 : A' 0 5 = n - 1) (h9 : ∀ i, 0 ≤ i → i < n - 1 → A' 9 i = if i < c then A 9 i else A 9 (i + 1))
    (hB : ∀ i, 0 ≤ i → i < 868 → i ≠ 4 → ¬ (109 ≤ i ∧ i < 133) → B' i = B i) (b4 : B' 4 = n - 1) (b0 : ∀ i, 109 ≤ i → i < 109 + 3 * (n - 1) → B' i = if i < 109 + 3 * c then B i else B (i + 3))
    (hN : ∀ i, 0 ≤ i → i < 16 → N' i = N i) : HR A' B' N' := by
  have hr1 := hr.1.1
  unfold VC at hr1
  have hr2 : HR (mset (fun k i => if k = 9 then A 9 i else A' k i) 0 5 n) (fun i => if i = 4 ∨ (109 ≤ i ∧ i < 133) then B i else B' i) N' := by
    refine HR_congr ?_ ?_ hN hr
    · intro k i h1 h2
      by_cases e : k = 0 ∧ i = 5
      · obtain ⟨rfl, rfl⟩ := e
        simp (disch := omega) only [mset_eq, mset_ne]
        exact hn
      · by_cases e2 : k = 9
        · subst e2
          simp (disch := omega) only [mset_ne, if_pos, if_true]
        · simp (disch := omega) only [mset_ne, if_neg]
          exact hA k i h1 h2 e e2
    · intro i h1 h2
      by_cases e : i = 4 ∨ (109 ≤ i ∧ i < 133)
      · simp only [if_pos e]
      · simp only [if_neg e]
        exact hB i h1 h2 (by omega) (by omega)
  have g : ∀ i, 0 ≤ i → i ≤ 6 → i ≠ 5 → A' 0 i = A 0 i := fun i h1 h2 h3 => hA 0 i (by omega) ⟨h1, show i < 7 by omega⟩ (by omega) (by omega)
  have g0 := g 0 (by omega) (by omega) (by omega)
  have g1 := g 1 (by omega) (by omega) (by omega)
  have g2 := g 2 (by omega) (by omega) (by omega)
  have g3 := g 3 (by omega) (by omega) (by omega)
  have g4 := g 4 (by omega) (by omega) (by omega)
  have g6 := g 6 (by omega) (by omega) (by omega)
  have g7 : ∀ c, 0 ≤ c ∧ c < A 0 4 → A' 7 c = A 7 c := fun c h => hA 7 c (by omega) ⟨h.1, show c < 5 by omega⟩ (by omega) (by omega)
  refine ⟨⟨?_, wkeep_VW hr2 (by intros; simp (disch := omega) only [mset_nc, mset_ne, if_neg]) (by intros; simp (disch := omega) only [mset_nc, mset_ne, if_neg]) (by intros; simp (disch := omega) only [mset_nc, mset_ne, if_neg]) (by intros; simp (disch := omega) only [mset_nc, mset_ne, if_neg]) (by intros; simp (disch := omega) only [mset_nc, mset_ne, if_neg]), wkeep_VS hr2 (by intros; simp (disch := omega) only [mset_nc, mset_ne, if_neg]) (by intros; simp (disch := omega) only [mset_nc, mset_ne, if_neg]) (by intros; simp (disch := omega) only [mset_nc, mset_ne, if_neg]), wkeep_VL hr2 (by intros; simp (disch := omega) only [mset_nc, mset_ne, if_neg]) (by intros; simp (disch := omega) only [mset_nc, mset_ne, if_neg]) (by intros; simp (disch := omega) only [mset_nc, mset_ne, if_neg]) (by intros; simp (disch := omega) only [mset_nc, mset_ne, if_neg]) (by intros; simp (disch := omega) only [mset_nc, mset_ne, if_neg]), wkeep_VU hr2 (by intros; simp (disch := omega) only [mset_nc, mset_ne, if_neg]) (by intros; simp (disch := omega) only [mset_nc, mset_ne, if_neg]) (by intros; simp (disch := omega) only [mset_nc, mset_ne, if_neg]), wkeep_VN hr2 (by intros; simp (disch := omega) only [mset_nc, mset_ne, if_neg]) (by intros; simp (disch := omega) only [mset_nc, mset_ne, if_neg]) (by intros; simp (disch := omega) only [mset_nc, mset_ne, if_neg]) (by intros; simp (disch := omega) only [mset_nc, mset_ne, if_neg]) (by intros; simp (disch := omega) only [mset_nc, mset_ne, if_neg]) (by intros; simp (disch := omega) only [mset_nc, mset_ne, if_neg]), wkeep_VT hr2 (by intros; simp (disch := omega) only [mset_nc, mset_ne, if_neg]) (by intros; simp (disch := omega) only [mset_nc, mset_ne, if_neg]) (by intros; simp (disch := omega) only [mset_nc, mset_ne, if_neg]) (by intros; simp (disch := omega) only [mset_nc, mset_ne, if_neg])⟩, ?_, wkeep_RW hr2 (by intros; simp (disch := omega) only [mset_nc, mset_ne, if_neg]) (by intros; simp (disch := omega) only [mset_nc, mset_ne, if_neg]) (by intros; simp (disch := omega) only [mset_nc, mset_ne, if_neg]) (by intros; simp (disch := omega) only [mset_nc, mset_ne, if_neg]) (by intros; simp (disch := omega) only [mset_nc, mset_ne, if_neg]), wkeep_RS hr2 (by intros; simp (disch := omega) only [mset_nc, mset_ne, if_neg]) (by intros; simp (disch := omega) only [mset_nc, mset_ne, if_neg]) (by intros; simp (disch := omega) only [mset_nc, mset_ne, if_neg]), wkeep_RL hr2 (by intros; simp (disch := omega) only [mset_nc, mset_ne, if_neg]) (by intros; simp (disch := omega) only [mset_nc, mset_ne, if_neg]) (by intros; simp (disch := omega) only [mset_nc, mset_ne, if_neg]) (by intros; simp (disch := omega) only [mset_nc, mset_ne, if_neg]) (by intros; simp (disch := omega) only [mset_nc, mset_ne, if_neg]), ?_, wkeep_RU hr2 (by intros; simp (disch := omega) only [mset_nc, mset_ne, if_neg]) (by intros; simp (disch := omega) only [mset_nc, mset_ne, if_neg]) (by intros; simp (disch := omega) only [mset_nc, mset_ne, if_neg]), wkeep_RN hr2 (by intros; simp (disch := omega) only [mset_nc, mset_ne, if_neg]) (by intros; simp (disch := omega) only [mset_nc, mset_ne, if_neg]) (by intros; simp (disch := omega) only [mset_nc, mset_ne, if_neg]) (by intros; simp (disch := omega) only [mset_nc, mset_ne, if_neg]) (by intros; simp (disch := omega) only [mset_nc, mset_ne, if_neg]), wkeep_RT hr2 (by intros; simp (disch := omega) only [mset_nc, mset_ne, if_neg]) (by intros; simp (disch := omega) only [mset_nc, mset_ne, if_neg]) (by intros; simp (disch := omega) only [mset_nc, mset_ne, if_neg])⟩
  · unfold VC
    omega
  · have hc2 := hr2.2.1
    unfold RC at hc2 ⊢
    simp (disch := omega) only [mset_ne, mset_eq, if_neg, if_pos] at hc2
    omega
  · intro k hk
    rw [h5] at hk
    by_cases e : k < c
    · have q := hr.2.2.2.2.2.1 k (by omega)
      rw [h9 k (by omega) (by omega), if_pos e, b0 _ (by omega) (by omega), if_pos (by omega), b0 (110 + 3 * k) (by omega) (by omega), if_pos (by omega), b0 (111 + 3 * k) (by omega) (by omega), if_pos (by omega), g4, g7 _ q.2.1]
      exact q
    · have q := hr.2.2.2.2.2.1 (k + 1) (by omega)
      rw [show 109 + 3 * (k + 1) = 109 + 3 * k + 3 by omega, show 110 + 3 * (k + 1) = 110 + 3 * k + 3 by omega, show 111 + 3 * (k + 1) = 111 + 3 * k + 3 by omega] at q
      rw [h9 k (by omega) (by omega), if_neg e, b0 (109 + 3 * k) (by omega) (by omega), if_neg (by omega), b0 (110 + 3 * k) (by omega) (by omega), if_neg (by omega), b0 (111 + 3 * k) (by omega) (by omega), if_neg (by omega), g4, g7 _ q.2.1]
      exact q
theorem ak_hush (d : Nat) (c : Int) : Ak (d + 30) 102 288 [c] := by
  apply ak_of; intro s hi
  have hc := inv_c hi
  have hr := inv_rc hi
  by_cases c1 : 0 ≤ c ∧ c < s 37 5
  · apply c_M_hush
    have q1 := q_strike (d + 28) isH37 s c c1 (by omega)
    simp only [Int.reduceAdd] at q1
    simp (disch := first | assumption | omega) only [rn, wk, al, wr_e, td_e, tm_e, mset_eq, mset_ne, if_pos, if_neg, Int.reduceAdd, Int.reduceSub, Int.reduceMul, Int.reduceNeg, Int.reduceLT, Int.reduceLE, Int.reduceEq, Int.cast_ofNat_Int, eq_self, and_true, true_and, ite_self, true_or, or_true, false_or, or_false, and_false, false_and, not_true_eq_false, not_false_eq_true, if_true, if_false, e_M_hush_0, e_M_hush_17, q_hasCall, q1, q_pass]
    apply c_R_hush
    have e4 : mset (mset (shl s 46 c (s 37 5 - 1) 1) 37 5 (s 37 5 - 1)) 0 0 0 138 4 = s 37 5 := by
      simp (disch := omega) only [mset_ne, shl_out]; omega
    have q2 := q_hushes_ok (d + 27) (mset (mset (shl s 46 c (s 37 5 - 1) 1) 37 5 (s 37 5 - 1)) 0 0 0) c (by rw [e4]; exact c1) (by rw [e4]; omega)
    rw [e4] at q2
    simp (disch := first | assumption | omega) only [rn, wk, al, wr_e, td_e, tm_e, mset_eq, mset_ne, if_pos, if_neg, Int.reduceAdd, Int.reduceSub, Int.reduceMul, Int.reduceNeg, Int.reduceLT, Int.reduceLE, Int.reduceEq, Int.cast_ofNat_Int, eq_self, and_true, true_and, ite_self, true_or, or_true, false_or, or_false, and_false, false_and, not_true_eq_false, not_false_eq_true, if_true, if_false, e_R_hush_0, e_R_hush_21, e_R_hush_26, q2, q_gives, shl_out]
    refine inv_up hi (by simp (disch := omega) only [mset_eq, mset_ne, shl_out]) (by intro c i hv h1 h2 h3; unfold Rv at hv; simp (disch := omega) only [mset_ne, shl_out]) ?_
    refine HR_hush (c := c) (n := s 37 5) hi.2.2.2.2.1 rfl c1 ?_ ?_ ?_ ?_ ?_ ?_ ?_
    · intro k i h1 h2 h3 h4
      simp (disch := omega) only [win, mset_ne, shl_out]
    · simp (disch := omega) only [win, mset_ne, mset_eq, Int.reduceAdd, shl_out]
    · intro i h1 h2
      by_cases e : i < c
      · simp (disch := omega) only [win, mset_ne, Int.reduceAdd, shl_out, if_pos]
      · simp (disch := omega) only [win, mset_ne, Int.reduceAdd, shl_out, shl_in, if_neg]
    · intro i h1 h2 h3 h4
      simp (disch := omega) only [mset_ne, shl_out]
    · simp (disch := omega) only [mset_ne, mset_eq, shl_out]
    · intro i h1 h2
      by_cases e : i < 109 + 3 * c
      · simp (disch := omega) only [mset_ne, shl_out, if_pos]
      · simp (disch := omega) only [mset_ne, shl_out, shl_in, if_neg]
    · intro i h1 h2
      simp (disch := omega) only [mset_ne, shl_out]
  · apply c_M_hush
    simp (disch := first | assumption | omega) only [rn, wk, al, wr_e, td_e, tm_e, mset_eq, mset_ne, if_pos, if_neg, Int.reduceAdd, Int.reduceSub, Int.reduceMul, Int.reduceNeg, Int.reduceLT, Int.reduceLE, Int.reduceEq, Int.cast_ofNat_Int, eq_self, and_true, true_and, ite_self, true_or, or_true, false_or, or_false, and_false, false_and, not_true_eq_false, not_false_eq_true, if_true, if_false, e_M_hush_0, e_M_hush_17, q_hasCall, q_fail]
    apply c_R_hush
    have q2 := q_hushes_no (d + 27) (mset s 0 0 1) c (by simp (disch := omega) only [mset_ne]; omega)
    simp (disch := first | assumption | omega) only [rn, wk, al, wr_e, td_e, tm_e, mset_eq, mset_ne, if_pos, if_neg, Int.reduceAdd, Int.reduceSub, Int.reduceMul, Int.reduceNeg, Int.reduceLT, Int.reduceLE, Int.reduceEq, Int.cast_ofNat_Int, eq_self, and_true, true_and, ite_self, true_or, or_true, false_or, or_false, and_false, false_and, not_true_eq_false, not_false_eq_true, if_true, if_false, e_R_hush_0, e_R_hush_21, e_R_hush_26, q2, q_refuse]
    exact inv_st 1 hi
