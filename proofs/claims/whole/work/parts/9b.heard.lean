/-! ===== H2: heard, first, last, loudest, all ===== -/
theorem ws_ {s : Mem} (hi : Inv s) (d : Nat) : CV (d + 4) 113 [37, 2] s fun _ u => Fx s 2 u ∧ ∀ x b, 0 ≤ x ∧ x < 4 → 0 ≤ b ∧ b < 91 → u 2 (4 * b + x) = if x < s 37 3 then sb (win s 37) x b else 0 :=
  q_writeSums d isH37 2 rfl (Or.inr (by omega)) s (VB_of (inv_va hi)) (vKs_of hi.2.2.2.2.1)
theorem ls_ {s t : Mem} (hi : Inv s) (d : Nat) (ht : t 138 = s 138) : CV (d + 6) 299 [137] t fun _ u => lsP (win s 37) t u :=
  q_laysSums d (win s 37) t (RA_congr ht (RA_of hi.2.2.2.2.1))
theorem inv_sums {s v t u : Mem} (p : Int) (hi : Inv s) (hv : Fx s 2 v) (ht : t = mset v 0 0 p) (hu : Ff t u) : Inv (mset u 137 2 p) := by
  subst ht
  refine inv_scr p hi ?_ ?_
  · intro c i h
    unfold Rv at h
    rw [hu c i (by omega) (by omega) (by omega), mset_ne (by omega), hv c i (by omega)]
  · rw [hu _ _ (by omega) (by omega) (by omega), mset_eq rfl rfl]
theorem Fx_refl (s : Mem) (X : Int) : Fx s X s := fun _ _ _ => rfl
theorem ak_heard (d : Nat) (x b : Int) : Ak (d + 30) 127 308 [x, b] := by
  apply ak_of; intro s hi
  have hc := inv_c hi
  have hr := inv_rc hi
  by_cases c1 : (0 ≤ x ∧ x < s 37 3) ∧ 0 ≤ b ∧ b ≤ 90
  · have q := q_sumAt (d + 25) isH37 s x b (VB_of (inv_va hi)) (vKs_of hi.2.2.2.2.1) c1.1 c1.2
    apply c_M_heard
    simp (disch := first | assumption | omega) only [rn, wk, al, wr_e, td_e, tm_e, mset_eq, mset_ne, if_pos, if_neg, Int.reduceAdd, Int.reduceSub, Int.reduceMul, Int.reduceNeg, Int.reduceLT, Int.reduceLE, Int.reduceEq, Int.cast_ofNat_Int, eq_self, and_true, true_and, ite_self, true_or, or_true, false_or, or_false, and_false, false_and, not_true_eq_false, not_false_eq_true, if_true, if_false, e_M_heard_0, e_M_heard_18, e_M_heard_24, q_hasSlate, q_isBeat, q, q_pass]
    apply c_R_heard
    simp (disch := first | assumption | omega) only [rn, wk, al, wr_e, td_e, tm_e, mset_eq, mset_ne, if_pos, if_neg, Int.reduceAdd, Int.reduceSub, Int.reduceMul, Int.reduceNeg, Int.reduceLT, Int.reduceLE, Int.reduceEq, Int.cast_ofNat_Int, eq_self, and_true, true_and, ite_self, true_or, or_true, false_or, or_false, and_false, false_and, not_true_eq_false, not_false_eq_true, if_true, if_false, e_R_heard_0, e_R_heard_15, q_isSlate, q_RisBeat]
    rw [e_R_heard_21]
    simp (disch := first | assumption | omega) only [rn, wk, al, wr_e, td_e, tm_e, mset_eq, mset_ne, if_pos, if_neg, Int.reduceAdd, Int.reduceSub, Int.reduceMul, Int.reduceNeg, Int.reduceLT, Int.reduceLE, Int.reduceEq, Int.cast_ofNat_Int, eq_self, and_true, true_and, ite_self, true_or, or_true, false_or, or_false, and_false, false_and, not_true_eq_false, not_false_eq_true, if_true, if_false]
    refine EV_call (CV_mono (ls_ hi _ (t := mset s 0 0 0) (mset_nc (by omega))) ?_)
    rintro r u ⟨u1, u2, u3, u4⟩
    have e := u4 x b (by omega) (by omega)
    rw [if_pos (show x < win s 37 0 3 from c1.1.2)] at e
    simp (disch := first | assumption | omega) only [rn, wk, al, wr_e, td_e, tm_e, mset_eq, mset_ne, if_pos, if_neg, Int.reduceAdd, Int.reduceSub, Int.reduceMul, Int.reduceNeg, Int.reduceLT, Int.reduceLE, Int.reduceEq, Int.cast_ofNat_Int, eq_self, and_true, true_and, ite_self, true_or, or_true, false_or, or_false, and_false, false_and, not_true_eq_false, not_false_eq_true, if_true, if_false, q_gives, e]
    exact inv_sums 0 hi (Fx_refl s 2) rfl u1
  · apply c_M_heard
    simp (disch := first | assumption | omega) only [rn, wk, al, wr_e, td_e, tm_e, mset_eq, mset_ne, if_pos, if_neg, Int.reduceAdd, Int.reduceSub, Int.reduceMul, Int.reduceNeg, Int.reduceLT, Int.reduceLE, Int.reduceEq, Int.cast_ofNat_Int, eq_self, and_true, true_and, ite_self, true_or, or_true, false_or, or_false, and_false, false_and, not_true_eq_false, not_false_eq_true, if_true, if_false, e_M_heard_0, e_M_heard_18, e_M_heard_24, q_hasSlate, q_isBeat, q_fail]
    repeat' split
    all_goals
      apply c_R_heard
      simp (disch := first | assumption | omega) only [rn, wk, al, wr_e, td_e, tm_e, mset_eq, mset_ne, if_pos, if_neg, Int.reduceAdd, Int.reduceSub, Int.reduceMul, Int.reduceNeg, Int.reduceLT, Int.reduceLE, Int.reduceEq, Int.cast_ofNat_Int, eq_self, and_true, true_and, ite_self, true_or, or_true, false_or, or_false, and_false, false_and, not_true_eq_false, not_false_eq_true, if_true, if_false, e_R_heard_0, e_R_heard_15, e_R_heard_21, q_isSlate, q_RisBeat, q_refuse]
      repeat' split
      all_goals first | exact inv_st 1 hi | omega
def fst_ (F : Int → Int) : Int → Nat → Int
  | _, 0 => -1
  | k, n + 1 => if 0 < F k then k else fst_ F (k + 1) n
theorem fst_congr {F G : Int → Int} : ∀ (n : Nat) (k : Int), (∀ i, k ≤ i → i < k + n → F i = G i) → fst_ F k n = fst_ G k n := by
  intro n
  induction n with
  | zero => intros; rfl
  | succ n ih =>
    intro k h
    unfold fst_
    rw [h k (by omega) (by omega), ih (k + 1) (fun i a b => h i (by omega) (by omega))]
theorem lp_Mfirst (d : Nat) (u : Mem) (x : Int) (hx : 0 ≤ x ∧ x < 4) (Q : Int → Mem → Prop) : ∀ (n : Nat) (k : Int), 0 ≤ k → k + n = 91 → Q (fst_ (fun b => u 2 (4 * b + x)) k n) (mset u 0 0 (if fst_ (fun b => u 2 (4 * b + x)) k n = -1 then 6 else 0)) → EV (d + 1) o_M_first 30 [] [0, x, k] u Q := by
  intro n
  induction n with
  | zero =>
    intro k h0 hk hq
    rw [e_M_first_30]
    simp (disch := first | assumption | omega) only [rn, wk, al, wr_e, td_e, tm_e, mset_eq, mset_ne, if_pos, if_neg, Int.reduceAdd, Int.reduceSub, Int.reduceMul, Int.reduceNeg, Int.reduceLT, Int.reduceLE, Int.reduceEq, Int.cast_ofNat_Int, eq_self, and_true, true_and, ite_self, true_or, or_true, false_or, or_false, and_false, false_and, not_true_eq_false, not_false_eq_true, if_true, if_false, e_M_first_0, e_M_first_17, e_M_first_55, e_M_first_61, q_fail]
    exact hq
  | succ n ih =>
    intro k h0 hk hq
    unfold fst_ at hq
    rw [e_M_first_30]
    by_cases c : 0 < u 2 (4 * k + x)
    · simp (disch := omega) only [if_pos c, if_neg] at hq
      simp (disch := first | assumption | omega) only [rn, wk, al, wr_e, td_e, tm_e, mset_eq, mset_ne, if_pos, if_neg, Int.reduceAdd, Int.reduceSub, Int.reduceMul, Int.reduceNeg, Int.reduceLT, Int.reduceLE, Int.reduceEq, Int.cast_ofNat_Int, eq_self, and_true, true_and, ite_self, true_or, or_true, false_or, or_false, and_false, false_and, not_true_eq_false, not_false_eq_true, if_true, if_false, e_M_first_0, e_M_first_17, e_M_first_55, e_M_first_61, q_cellOf, q_pass]
      exact hq
    · simp only [if_neg c] at hq
      simp (disch := first | assumption | omega) only [rn, wk, al, wr_e, td_e, tm_e, mset_eq, mset_ne, if_pos, if_neg, Int.reduceAdd, Int.reduceSub, Int.reduceMul, Int.reduceNeg, Int.reduceLT, Int.reduceLE, Int.reduceEq, Int.cast_ofNat_Int, eq_self, and_true, true_and, ite_self, true_or, or_true, false_or, or_false, and_false, false_and, not_true_eq_false, not_false_eq_true, if_true, if_false, e_M_first_0, e_M_first_17, e_M_first_55, e_M_first_61, q_cellOf]
      exact ih (k + 1) (by omega) (by omega) hq
theorem lp_Rfirst (d : Nat) (u : Mem) (x : Int) (hx : 0 ≤ x ∧ x < 4) (Q : Int → Mem → Prop) : ∀ (n : Nat) (k : Int), 0 ≤ k → k + n = 91 → Q (fst_ (fun b => u 147 (91 * x + b)) k n) (mset u 137 2 (if fst_ (fun b => u 147 (91 * x + b)) k n = -1 then 6 else 0)) → EV (d + 1) o_R_first 20 [] [137, x, k] u Q := by
  intro n
  induction n with
  | zero =>
    intro k h0 hk hq
    rw [e_R_first_20]
    simp (disch := first | assumption | omega) only [rn, wk, al, wr_e, td_e, tm_e, mset_eq, mset_ne, if_pos, if_neg, Int.reduceAdd, Int.reduceSub, Int.reduceMul, Int.reduceNeg, Int.reduceLT, Int.reduceLE, Int.reduceEq, Int.cast_ofNat_Int, eq_self, and_true, true_and, ite_self, true_or, or_true, false_or, or_false, and_false, false_and, not_true_eq_false, not_false_eq_true, if_true, if_false, e_R_first_0, e_R_first_14, e_R_first_46, e_R_first_52, q_refuse]
    exact hq
  | succ n ih =>
    intro k h0 hk hq
    unfold fst_ at hq
    rw [e_R_first_20]
    by_cases c : 0 < u 147 (91 * x + k)
    · simp (disch := omega) only [if_pos c, if_neg] at hq
      simp (disch := first | assumption | omega) only [rn, wk, al, wr_e, td_e, tm_e, mset_eq, mset_ne, if_pos, if_neg, Int.reduceAdd, Int.reduceSub, Int.reduceMul, Int.reduceNeg, Int.reduceLT, Int.reduceLE, Int.reduceEq, Int.cast_ofNat_Int, eq_self, and_true, true_and, ite_self, true_or, or_true, false_or, or_false, and_false, false_and, not_true_eq_false, not_false_eq_true, if_true, if_false, e_R_first_0, e_R_first_14, e_R_first_46, e_R_first_52, q_gives]
      exact hq
    · simp only [if_neg c] at hq
      simp (disch := first | assumption | omega) only [rn, wk, al, wr_e, td_e, tm_e, mset_eq, mset_ne, if_pos, if_neg, Int.reduceAdd, Int.reduceSub, Int.reduceMul, Int.reduceNeg, Int.reduceLT, Int.reduceLE, Int.reduceEq, Int.cast_ofNat_Int, eq_self, and_true, true_and, ite_self, true_or, or_true, false_or, or_false, and_false, false_and, not_true_eq_false, not_false_eq_true, if_true, if_false, e_R_first_0, e_R_first_14, e_R_first_46, e_R_first_52]
      exact ih (k + 1) (by omega) (by omega) hq
theorem ak_first (d : Nat) (x : Int) : Ak (d + 30) 131 311 [x] := by
  apply ak_of; intro s hi
  have hc := inv_c hi
  have hr := inv_rc hi
  by_cases c1 : 0 ≤ x ∧ x < s 37 3
  · apply c_M_first
    simp (disch := first | assumption | omega) only [rn, wk, al, wr_e, td_e, tm_e, mset_eq, mset_ne, if_pos, if_neg, Int.reduceAdd, Int.reduceSub, Int.reduceMul, Int.reduceNeg, Int.reduceLT, Int.reduceLE, Int.reduceEq, Int.cast_ofNat_Int, eq_self, and_true, true_and, ite_self, true_or, or_true, false_or, or_false, and_false, false_and, not_true_eq_false, not_false_eq_true, if_true, if_false, e_M_first_0, e_M_first_55, e_M_first_61, q_hasSlate]
    rw [e_M_first_17]
    simp (disch := first | assumption | omega) only [rn, wk, al, wr_e, td_e, tm_e, mset_eq, mset_ne, if_pos, if_neg, Int.reduceAdd, Int.reduceSub, Int.reduceMul, Int.reduceNeg, Int.reduceLT, Int.reduceLE, Int.reduceEq, Int.cast_ofNat_Int, eq_self, and_true, true_and, ite_self, true_or, or_true, false_or, or_false, and_false, false_and, not_true_eq_false, not_false_eq_true, if_true, if_false]
    refine EV_call (CV_mono (ws_ hi _) ?_)
    rintro r v ⟨v1, v2⟩
    refine lp_Mfirst _ v x (by omega) _ 91 0 (by omega) (by omega) ?_
    generalize hp : (if fst_ (fun b => v 2 (4 * b + x)) 0 91 = -1 then (6 : Int) else 0) = p
    have e138 : mset v 0 0 p 138 = s 138 := by rw [mset_nc (by omega)]; funext i; exact v1 _ _ (by omega)
    apply c_R_first
    have g : v 138 2 = s 37 3 := by rw [v1 _ _ (by omega)]; omega
    simp (disch := first | assumption | omega) only [rn, wk, al, wr_e, td_e, tm_e, mset_eq, mset_ne, if_pos, if_neg, Int.reduceAdd, Int.reduceSub, Int.reduceMul, Int.reduceNeg, Int.reduceLT, Int.reduceLE, Int.reduceEq, Int.cast_ofNat_Int, eq_self, and_true, true_and, ite_self, true_or, or_true, false_or, or_false, and_false, false_and, not_true_eq_false, not_false_eq_true, if_true, if_false, e_R_first_0, e_R_first_46, e_R_first_52, q_isSlate, g]
    rw [e_R_first_14]
    simp (disch := first | assumption | omega) only [rn, wk, al, wr_e, td_e, tm_e, mset_eq, mset_ne, if_pos, if_neg, Int.reduceAdd, Int.reduceSub, Int.reduceMul, Int.reduceNeg, Int.reduceLT, Int.reduceLE, Int.reduceEq, Int.cast_ofNat_Int, eq_self, and_true, true_and, ite_self, true_or, or_true, false_or, or_false, and_false, false_and, not_true_eq_false, not_false_eq_true, if_true, if_false]
    refine EV_call (CV_mono (ls_ hi _ e138) ?_)
    rintro r' u ⟨u1, u2, u3, u4⟩
    refine lp_Rfirst _ u x (by omega) _ 91 0 (by omega) (by omega) ?_
    have e : fst_ (fun b => u 147 (91 * x + b)) 0 91 = fst_ (fun b => v 2 (4 * b + x)) 0 91 := fst_congr 91 0 (fun b h1 h2 => by
      show u 147 (91 * x + b) = v 2 (4 * b + x)
      rw [u4 x b (by omega) (by omega), v2 x b (by omega) (by omega)]; rfl)
    rw [e, hp]
    exact ⟨rfl, inv_sums p hi v1 rfl u1⟩
  · apply c_M_first
    simp (disch := first | assumption | omega) only [rn, wk, al, wr_e, td_e, tm_e, mset_eq, mset_ne, if_pos, if_neg, Int.reduceAdd, Int.reduceSub, Int.reduceMul, Int.reduceNeg, Int.reduceLT, Int.reduceLE, Int.reduceEq, Int.cast_ofNat_Int, eq_self, and_true, true_and, ite_self, true_or, or_true, false_or, or_false, and_false, false_and, not_true_eq_false, not_false_eq_true, if_true, if_false, e_M_first_0, e_M_first_17, e_M_first_55, e_M_first_61, q_hasSlate, q_fail]
    apply c_R_first
    simp (disch := first | assumption | omega) only [rn, wk, al, wr_e, td_e, tm_e, mset_eq, mset_ne, if_pos, if_neg, Int.reduceAdd, Int.reduceSub, Int.reduceMul, Int.reduceNeg, Int.reduceLT, Int.reduceLE, Int.reduceEq, Int.cast_ofNat_Int, eq_self, and_true, true_and, ite_self, true_or, or_true, false_or, or_false, and_false, false_and, not_true_eq_false, not_false_eq_true, if_true, if_false, e_R_first_0, e_R_first_14, e_R_first_46, e_R_first_52, q_isSlate, q_refuse]
    exact inv_st 1 hi
def lst_ (F : Int → Int) : Nat → Int
  | 0 => -1
  | n + 1 => if 0 < F n then n else lst_ F n
theorem lst_congr {F G : Int → Int} : ∀ (n : Nat), (∀ i, 0 ≤ i → i < (n : Int) → F i = G i) → lst_ F n = lst_ G n := by
  intro n
  induction n with
  | zero => intros; rfl
  | succ n ih =>
    intro h
    unfold lst_
    rw [h n (by omega) (by omega), ih (fun i a b => h i (by omega) (by omega))]
theorem lp_Mlast (d : Nat) (u : Mem) (x : Int) (hx : 0 ≤ x ∧ x < 4) (Q : Int → Mem → Prop) : ∀ (n : Nat), n ≤ 91 → Q (lst_ (fun b => u 2 (4 * b + x)) n) (mset u 0 0 (if lst_ (fun b => u 2 (4 * b + x)) n = -1 then 6 else 0)) → EV (d + 1) o_M_last 31 [] [0, x, (n : Int) - 1] u Q := by
  intro n
  induction n with
  | zero =>
    intro hk hq
    rw [e_M_last_31]
    simp (disch := first | assumption | omega) only [rn, wk, al, wr_e, td_e, tm_e, mset_eq, mset_ne, if_pos, if_neg, Int.reduceAdd, Int.reduceSub, Int.reduceMul, Int.reduceNeg, Int.reduceLT, Int.reduceLE, Int.reduceEq, Int.cast_ofNat_Int, eq_self, and_true, true_and, ite_self, true_or, or_true, false_or, or_false, and_false, false_and, not_true_eq_false, not_false_eq_true, if_true, if_false, e_M_last_0, e_M_last_17, e_M_last_54, e_M_last_60, q_fail]
    exact hq
  | succ n ih =>
    intro hk hq
    unfold lst_ at hq
    have e : ((n + 1 : Nat) : Int) - 1 = n := by omega
    rw [e, e_M_last_31]
    by_cases c : 0 < u 2 (4 * (n : Int) + x)
    · simp (disch := omega) only [if_pos c, if_neg] at hq
      simp (disch := first | assumption | omega) only [rn, wk, al, wr_e, td_e, tm_e, mset_eq, mset_ne, if_pos, if_neg, Int.reduceAdd, Int.reduceSub, Int.reduceMul, Int.reduceNeg, Int.reduceLT, Int.reduceLE, Int.reduceEq, Int.cast_ofNat_Int, eq_self, and_true, true_and, ite_self, true_or, or_true, false_or, or_false, and_false, false_and, not_true_eq_false, not_false_eq_true, if_true, if_false, e_M_last_0, e_M_last_17, e_M_last_54, e_M_last_60, q_cellOf, q_pass]
      exact hq
    · simp only [if_neg c] at hq
      simp (disch := first | assumption | omega) only [rn, wk, al, wr_e, td_e, tm_e, mset_eq, mset_ne, if_pos, if_neg, Int.reduceAdd, Int.reduceSub, Int.reduceMul, Int.reduceNeg, Int.reduceLT, Int.reduceLE, Int.reduceEq, Int.cast_ofNat_Int, eq_self, and_true, true_and, ite_self, true_or, or_true, false_or, or_false, and_false, false_and, not_true_eq_false, not_false_eq_true, if_true, if_false, e_M_last_0, e_M_last_17, e_M_last_54, e_M_last_60, q_cellOf]
      have := ih (by omega) hq
      rw [show (n : Int) - 1 = n + -1 by omega] at this
      exact this
theorem lp_Rlast (d : Nat) (u : Mem) (x : Int) (hx : 0 ≤ x ∧ x < 4) (Q : Int → Mem → Prop) : ∀ (n : Nat), n ≤ 91 → Q (lst_ (fun b => u 147 (91 * x + b)) n) (mset u 137 2 (if lst_ (fun b => u 147 (91 * x + b)) n = -1 then 6 else 0)) → EV (d + 1) o_R_last 21 [] [137, x, (n : Int) - 1] u Q := by
  intro n
  induction n with
  | zero =>
    intro hk hq
    rw [e_R_last_21]
    simp (disch := first | assumption | omega) only [rn, wk, al, wr_e, td_e, tm_e, mset_eq, mset_ne, if_pos, if_neg, Int.reduceAdd, Int.reduceSub, Int.reduceMul, Int.reduceNeg, Int.reduceLT, Int.reduceLE, Int.reduceEq, Int.cast_ofNat_Int, eq_self, and_true, true_and, ite_self, true_or, or_true, false_or, or_false, and_false, false_and, not_true_eq_false, not_false_eq_true, if_true, if_false, e_R_last_0, e_R_last_14, e_R_last_45, e_R_last_51, q_refuse]
    exact hq
  | succ n ih =>
    intro hk hq
    unfold lst_ at hq
    have e : ((n + 1 : Nat) : Int) - 1 = n := by omega
    rw [e, e_R_last_21]
    by_cases c : 0 < u 147 (91 * x + (n : Int))
    · simp (disch := omega) only [if_pos c, if_neg] at hq
      simp (disch := first | assumption | omega) only [rn, wk, al, wr_e, td_e, tm_e, mset_eq, mset_ne, if_pos, if_neg, Int.reduceAdd, Int.reduceSub, Int.reduceMul, Int.reduceNeg, Int.reduceLT, Int.reduceLE, Int.reduceEq, Int.cast_ofNat_Int, eq_self, and_true, true_and, ite_self, true_or, or_true, false_or, or_false, and_false, false_and, not_true_eq_false, not_false_eq_true, if_true, if_false, e_R_last_0, e_R_last_14, e_R_last_45, e_R_last_51, q_gives]
      exact hq
    · simp only [if_neg c] at hq
      simp (disch := first | assumption | omega) only [rn, wk, al, wr_e, td_e, tm_e, mset_eq, mset_ne, if_pos, if_neg, Int.reduceAdd, Int.reduceSub, Int.reduceMul, Int.reduceNeg, Int.reduceLT, Int.reduceLE, Int.reduceEq, Int.cast_ofNat_Int, eq_self, and_true, true_and, ite_self, true_or, or_true, false_or, or_false, and_false, false_and, not_true_eq_false, not_false_eq_true, if_true, if_false, e_R_last_0, e_R_last_14, e_R_last_45, e_R_last_51]
      have := ih (by omega) hq
      rw [show (n : Int) - 1 = n + -1 by omega] at this
      exact this
theorem ak_last (d : Nat) (x : Int) : Ak (d + 30) 132 312 [x] := by
  apply ak_of; intro s hi
  have hc := inv_c hi
  have hr := inv_rc hi
  by_cases c1 : 0 ≤ x ∧ x < s 37 3
  · apply c_M_last
    simp (disch := first | assumption | omega) only [rn, wk, al, wr_e, td_e, tm_e, mset_eq, mset_ne, if_pos, if_neg, Int.reduceAdd, Int.reduceSub, Int.reduceMul, Int.reduceNeg, Int.reduceLT, Int.reduceLE, Int.reduceEq, Int.cast_ofNat_Int, eq_self, and_true, true_and, ite_self, true_or, or_true, false_or, or_false, and_false, false_and, not_true_eq_false, not_false_eq_true, if_true, if_false, e_M_last_0, e_M_last_54, e_M_last_60, q_hasSlate]
    rw [e_M_last_17]
    simp (disch := first | assumption | omega) only [rn, wk, al, wr_e, td_e, tm_e, mset_eq, mset_ne, if_pos, if_neg, Int.reduceAdd, Int.reduceSub, Int.reduceMul, Int.reduceNeg, Int.reduceLT, Int.reduceLE, Int.reduceEq, Int.cast_ofNat_Int, eq_self, and_true, true_and, ite_self, true_or, or_true, false_or, or_false, and_false, false_and, not_true_eq_false, not_false_eq_true, if_true, if_false]
    refine EV_call (CV_mono (ws_ hi _) ?_)
    rintro r v ⟨v1, v2⟩
    refine lp_Mlast _ v x (by omega) _ 91 (by omega) ?_
    generalize hp : (if lst_ (fun b => v 2 (4 * b + x)) 91 = -1 then (6 : Int) else 0) = p
    have e138 : mset v 0 0 p 138 = s 138 := by rw [mset_nc (by omega)]; funext i; exact v1 _ _ (by omega)
    apply c_R_last
    have g : v 138 2 = s 37 3 := by rw [v1 _ _ (by omega)]; omega
    simp (disch := first | assumption | omega) only [rn, wk, al, wr_e, td_e, tm_e, mset_eq, mset_ne, if_pos, if_neg, Int.reduceAdd, Int.reduceSub, Int.reduceMul, Int.reduceNeg, Int.reduceLT, Int.reduceLE, Int.reduceEq, Int.cast_ofNat_Int, eq_self, and_true, true_and, ite_self, true_or, or_true, false_or, or_false, and_false, false_and, not_true_eq_false, not_false_eq_true, if_true, if_false, e_R_last_0, e_R_last_45, e_R_last_51, q_isSlate, g]
    rw [e_R_last_14]
    simp (disch := first | assumption | omega) only [rn, wk, al, wr_e, td_e, tm_e, mset_eq, mset_ne, if_pos, if_neg, Int.reduceAdd, Int.reduceSub, Int.reduceMul, Int.reduceNeg, Int.reduceLT, Int.reduceLE, Int.reduceEq, Int.cast_ofNat_Int, eq_self, and_true, true_and, ite_self, true_or, or_true, false_or, or_false, and_false, false_and, not_true_eq_false, not_false_eq_true, if_true, if_false]
    refine EV_call (CV_mono (ls_ hi _ e138) ?_)
    rintro r' u ⟨u1, u2, u3, u4⟩
    refine lp_Rlast _ u x (by omega) _ 91 (by omega) ?_
    have e : lst_ (fun b => u 147 (91 * x + b)) 91 = lst_ (fun b => v 2 (4 * b + x)) 91 := lst_congr 91 (fun b h1 h2 => by
      show u 147 (91 * x + b) = v 2 (4 * b + x)
      rw [u4 x b (by omega) (by omega), v2 x b (by omega) (by omega)]; rfl)
    rw [e, hp]
    exact ⟨rfl, inv_sums p hi v1 rfl u1⟩
  · apply c_M_last
    simp (disch := first | assumption | omega) only [rn, wk, al, wr_e, td_e, tm_e, mset_eq, mset_ne, if_pos, if_neg, Int.reduceAdd, Int.reduceSub, Int.reduceMul, Int.reduceNeg, Int.reduceLT, Int.reduceLE, Int.reduceEq, Int.cast_ofNat_Int, eq_self, and_true, true_and, ite_self, true_or, or_true, false_or, or_false, and_false, false_and, not_true_eq_false, not_false_eq_true, if_true, if_false, e_M_last_0, e_M_last_17, e_M_last_54, e_M_last_60, q_hasSlate, q_fail]
    apply c_R_last
    simp (disch := first | assumption | omega) only [rn, wk, al, wr_e, td_e, tm_e, mset_eq, mset_ne, if_pos, if_neg, Int.reduceAdd, Int.reduceSub, Int.reduceMul, Int.reduceNeg, Int.reduceLT, Int.reduceLE, Int.reduceEq, Int.cast_ofNat_Int, eq_self, and_true, true_and, ite_self, true_or, or_true, false_or, or_false, and_false, false_and, not_true_eq_false, not_false_eq_true, if_true, if_false, e_R_last_0, e_R_last_14, e_R_last_45, e_R_last_51, q_isSlate, q_refuse]
    exact inv_st 1 hi
def ld_ (F : Int → Int) : Nat → Int → Int → Int → Int
  | 0, _, b, _ => b
  | n + 1, k, b, m => if m < F k then ld_ F n (k + 1) k (F k) else ld_ F n (k + 1) b m
theorem ld_congr {F G : Int → Int} : ∀ (n : Nat) (k b m : Int), (∀ i, k ≤ i → i < k + n → F i = G i) → ld_ F n k b m = ld_ G n k b m := by
  intro n
  induction n with
  | zero => intros; rfl
  | succ n ih =>
    intro k b m h
    unfold ld_
    rw [h k (by omega) (by omega), ih (k + 1) k (G k) (fun i a b => h i (by omega) (by omega)), ih (k + 1) b m (fun i a b => h i (by omega) (by omega))]
theorem lp_Mloud (d : Nat) (u : Mem) (x : Int) (hx : 0 ≤ x ∧ x < 4) (Q : Int → Mem → Prop) : ∀ (n : Nat) (k b m z : Int), 0 ≤ k → k + n = 91 → (∀ r, r = ld_ (fun b => u 2 (4 * b + x)) n k b m → Q r (mset u 0 0 (if r = -1 then 6 else 0))) → EV (d + 1) o_M_loudest 35 [] [0, x, b, m, k, z] u Q := by
  intro n
  induction n with
  | zero =>
    intro k b m z h0 hk hq
    have hq := hq b rfl
    rw [e_M_loudest_35]
    by_cases c : b = -1
    · subst c
      rw [if_pos rfl] at hq
      simp (disch := first | assumption | omega) only [rn, wk, al, wr_e, td_e, tm_e, mset_eq, mset_ne, if_pos, if_neg, Int.reduceAdd, Int.reduceSub, Int.reduceMul, Int.reduceNeg, Int.reduceLT, Int.reduceLE, Int.reduceEq, Int.cast_ofNat_Int, eq_self, and_true, true_and, ite_self, true_or, or_true, false_or, or_false, and_false, false_and, not_true_eq_false, not_false_eq_true, if_true, if_false, e_M_loudest_0, e_M_loudest_17, e_M_loudest_67, e_M_loudest_73, e_M_loudest_87, e_M_loudest_92, q_fail]
      exact hq
    · rw [if_neg c] at hq
      simp (disch := first | assumption | omega) only [rn, wk, al, wr_e, td_e, tm_e, mset_eq, mset_ne, if_pos, if_neg, Int.reduceAdd, Int.reduceSub, Int.reduceMul, Int.reduceNeg, Int.reduceLT, Int.reduceLE, Int.reduceEq, Int.cast_ofNat_Int, eq_self, and_true, true_and, ite_self, true_or, or_true, false_or, or_false, and_false, false_and, not_true_eq_false, not_false_eq_true, if_true, if_false, e_M_loudest_0, e_M_loudest_17, e_M_loudest_67, e_M_loudest_73, e_M_loudest_87, e_M_loudest_92, q_pass]
      exact hq
  | succ n ih =>
    intro k b m z h0 hk hq
    rw [e_M_loudest_35]
    by_cases c : m < u 2 (4 * k + x)
    · simp (disch := first | assumption | omega) only [rn, wk, al, wr_e, td_e, tm_e, mset_eq, mset_ne, if_pos, if_neg, Int.reduceAdd, Int.reduceSub, Int.reduceMul, Int.reduceNeg, Int.reduceLT, Int.reduceLE, Int.reduceEq, Int.cast_ofNat_Int, eq_self, and_true, true_and, ite_self, true_or, or_true, false_or, or_false, and_false, false_and, not_true_eq_false, not_false_eq_true, if_true, if_false, e_M_loudest_0, e_M_loudest_17, e_M_loudest_67, e_M_loudest_73, e_M_loudest_87, e_M_loudest_92, q_cellOf]
      refine ih (k + 1) _ _ _ (by omega) (by omega) (fun r hr => hq r ?_)
      unfold ld_; simp only [if_pos c]; exact hr
    · simp (disch := first | assumption | omega) only [rn, wk, al, wr_e, td_e, tm_e, mset_eq, mset_ne, if_pos, if_neg, Int.reduceAdd, Int.reduceSub, Int.reduceMul, Int.reduceNeg, Int.reduceLT, Int.reduceLE, Int.reduceEq, Int.cast_ofNat_Int, eq_self, and_true, true_and, ite_self, true_or, or_true, false_or, or_false, and_false, false_and, not_true_eq_false, not_false_eq_true, if_true, if_false, e_M_loudest_0, e_M_loudest_17, e_M_loudest_67, e_M_loudest_73, e_M_loudest_87, e_M_loudest_92, q_cellOf]
      refine ih (k + 1) _ _ _ (by omega) (by omega) (fun r hr => hq r ?_)
      unfold ld_; simp only [if_neg c]; exact hr
theorem lp_Rloud (d : Nat) (u : Mem) (x : Int) (hx : 0 ≤ x ∧ x < 4) (Q : Int → Mem → Prop) : ∀ (n : Nat) (k b m : Int), 0 ≤ k → k + n = 91 → (∀ r, r = ld_ (fun b => u 147 (91 * x + b)) n k b m → Q r (mset u 137 2 (if r = -1 then 6 else 0))) → EV (d + 2) o_R_loudest 25 [] [137, x, b, m, k] u Q := by
  intro n
  induction n with
  | zero =>
    intro k b m h0 hk hq
    have hq := hq b rfl
    have qo : sem (d + 2) 314 [137, b] u = some (b, mset u 137 2 (if b = -1 then 6 else 0)) := by
      apply CV_eq; apply c_R_orNone
      by_cases c : b = -1
      · subst c; simp (disch := first | assumption | omega) only [rn, wk, al, wr_e, td_e, tm_e, mset_eq, mset_ne, if_pos, if_neg, Int.reduceAdd, Int.reduceSub, Int.reduceMul, Int.reduceNeg, Int.reduceLT, Int.reduceLE, Int.reduceEq, Int.cast_ofNat_Int, eq_self, and_true, true_and, ite_self, true_or, or_true, false_or, or_false, and_false, false_and, not_true_eq_false, not_false_eq_true, if_true, if_false, e_R_orNone_0, e_R_orNone_14, e_R_orNone_19, q_refuse]
      · simp (disch := first | assumption | omega) only [rn, wk, al, wr_e, td_e, tm_e, mset_eq, mset_ne, if_pos, if_neg, Int.reduceAdd, Int.reduceSub, Int.reduceMul, Int.reduceNeg, Int.reduceLT, Int.reduceLE, Int.reduceEq, Int.cast_ofNat_Int, eq_self, and_true, true_and, ite_self, true_or, or_true, false_or, or_false, and_false, false_and, not_true_eq_false, not_false_eq_true, if_true, if_false, e_R_orNone_0, e_R_orNone_14, e_R_orNone_19, q_gives]
    rw [e_R_loudest_25]
    simp (disch := first | assumption | omega) only [rn, wk, al, wr_e, td_e, tm_e, mset_eq, mset_ne, if_pos, if_neg, Int.reduceAdd, Int.reduceSub, Int.reduceMul, Int.reduceNeg, Int.reduceLT, Int.reduceLE, Int.reduceEq, Int.cast_ofNat_Int, eq_self, and_true, true_and, ite_self, true_or, or_true, false_or, or_false, and_false, false_and, not_true_eq_false, not_false_eq_true, if_true, if_false, e_R_loudest_0, e_R_loudest_14, e_R_loudest_51, e_R_loudest_67, e_R_loudest_73, qo]
    exact hq
  | succ n ih =>
    intro k b m h0 hk hq
    rw [e_R_loudest_25]
    by_cases c : m < u 147 (91 * x + k)
    · simp (disch := first | assumption | omega) only [rn, wk, al, wr_e, td_e, tm_e, mset_eq, mset_ne, if_pos, if_neg, Int.reduceAdd, Int.reduceSub, Int.reduceMul, Int.reduceNeg, Int.reduceLT, Int.reduceLE, Int.reduceEq, Int.cast_ofNat_Int, eq_self, and_true, true_and, ite_self, true_or, or_true, false_or, or_false, and_false, false_and, not_true_eq_false, not_false_eq_true, if_true, if_false, e_R_loudest_0, e_R_loudest_14, e_R_loudest_51, e_R_loudest_67, e_R_loudest_73]
      refine ih (k + 1) _ _ (by omega) (by omega) (fun r hr => hq r ?_)
      unfold ld_; simp only [if_pos c]; exact hr
    · simp (disch := first | assumption | omega) only [rn, wk, al, wr_e, td_e, tm_e, mset_eq, mset_ne, if_pos, if_neg, Int.reduceAdd, Int.reduceSub, Int.reduceMul, Int.reduceNeg, Int.reduceLT, Int.reduceLE, Int.reduceEq, Int.cast_ofNat_Int, eq_self, and_true, true_and, ite_self, true_or, or_true, false_or, or_false, and_false, false_and, not_true_eq_false, not_false_eq_true, if_true, if_false, e_R_loudest_0, e_R_loudest_14, e_R_loudest_51, e_R_loudest_67, e_R_loudest_73]
      refine ih (k + 1) _ _ (by omega) (by omega) (fun r hr => hq r ?_)
      unfold ld_; simp only [if_neg c]; exact hr
theorem ak_loudest (d : Nat) (x : Int) : Ak (d + 30) 133 313 [x] := by
  apply ak_of; intro s hi
  have hc := inv_c hi
  have hr := inv_rc hi
  by_cases c1 : 0 ≤ x ∧ x < s 37 3
  · apply c_M_loudest
    simp (disch := first | assumption | omega) only [rn, wk, al, wr_e, td_e, tm_e, mset_eq, mset_ne, if_pos, if_neg, Int.reduceAdd, Int.reduceSub, Int.reduceMul, Int.reduceNeg, Int.reduceLT, Int.reduceLE, Int.reduceEq, Int.cast_ofNat_Int, eq_self, and_true, true_and, ite_self, true_or, or_true, false_or, or_false, and_false, false_and, not_true_eq_false, not_false_eq_true, if_true, if_false, e_M_loudest_0, e_M_loudest_67, e_M_loudest_73, e_M_loudest_87, e_M_loudest_92, q_hasSlate]
    rw [e_M_loudest_17]
    simp (disch := first | assumption | omega) only [rn, wk, al, wr_e, td_e, tm_e, mset_eq, mset_ne, if_pos, if_neg, Int.reduceAdd, Int.reduceSub, Int.reduceMul, Int.reduceNeg, Int.reduceLT, Int.reduceLE, Int.reduceEq, Int.cast_ofNat_Int, eq_self, and_true, true_and, ite_self, true_or, or_true, false_or, or_false, and_false, false_and, not_true_eq_false, not_false_eq_true, if_true, if_false]
    refine EV_call (CV_mono (ws_ hi _) ?_)
    rintro r v ⟨v1, v2⟩
    refine lp_Mloud _ v x (by omega) _ 91 0 _ _ _ (by omega) (by omega) ?_
    intro r hr'
    generalize hp : (if r = -1 then (6 : Int) else 0) = p
    have e138 : mset v 0 0 p 138 = s 138 := by rw [mset_nc (by omega)]; funext i; exact v1 _ _ (by omega)
    apply c_R_loudest
    have g : v 138 2 = s 37 3 := by rw [v1 _ _ (by omega)]; omega
    simp (disch := first | assumption | omega) only [rn, wk, al, wr_e, td_e, tm_e, mset_eq, mset_ne, if_pos, if_neg, Int.reduceAdd, Int.reduceSub, Int.reduceMul, Int.reduceNeg, Int.reduceLT, Int.reduceLE, Int.reduceEq, Int.cast_ofNat_Int, eq_self, and_true, true_and, ite_self, true_or, or_true, false_or, or_false, and_false, false_and, not_true_eq_false, not_false_eq_true, if_true, if_false, e_R_loudest_0, e_R_loudest_51, e_R_loudest_67, e_R_loudest_73, q_isSlate, g]
    rw [e_R_loudest_14]
    simp (disch := first | assumption | omega) only [rn, wk, al, wr_e, td_e, tm_e, mset_eq, mset_ne, if_pos, if_neg, Int.reduceAdd, Int.reduceSub, Int.reduceMul, Int.reduceNeg, Int.reduceLT, Int.reduceLE, Int.reduceEq, Int.cast_ofNat_Int, eq_self, and_true, true_and, ite_self, true_or, or_true, false_or, or_false, and_false, false_and, not_true_eq_false, not_false_eq_true, if_true, if_false]
    refine EV_call (CV_mono (ls_ hi _ e138) ?_)
    rintro r' u ⟨u1, u2, u3, u4⟩
    refine lp_Rloud _ u x (by omega) _ 91 0 _ _ (by omega) (by omega) ?_
    intro r2 hr2
    have e : ld_ (fun b => u 147 (91 * x + b)) 91 0 (-1) 0 = ld_ (fun b => v 2 (4 * b + x)) 91 0 (-1) 0 := ld_congr 91 0 _ _ (fun b h1 h2 => by
      show u 147 (91 * x + b) = v 2 (4 * b + x)
      rw [u4 x b (by omega) (by omega), v2 x b (by omega) (by omega)]; rfl)
    rw [e, ← hr'] at hr2
    subst hr2
    rw [hp]
    exact ⟨rfl, inv_sums p hi v1 rfl u1⟩
  · apply c_M_loudest
    simp (disch := first | assumption | omega) only [rn, wk, al, wr_e, td_e, tm_e, mset_eq, mset_ne, if_pos, if_neg, Int.reduceAdd, Int.reduceSub, Int.reduceMul, Int.reduceNeg, Int.reduceLT, Int.reduceLE, Int.reduceEq, Int.cast_ofNat_Int, eq_self, and_true, true_and, ite_self, true_or, or_true, false_or, or_false, and_false, false_and, not_true_eq_false, not_false_eq_true, if_true, if_false, e_M_loudest_0, e_M_loudest_17, e_M_loudest_67, e_M_loudest_73, e_M_loudest_87, e_M_loudest_92, q_hasSlate, q_fail]
    apply c_R_loudest
    simp (disch := first | assumption | omega) only [rn, wk, al, wr_e, td_e, tm_e, mset_eq, mset_ne, if_pos, if_neg, Int.reduceAdd, Int.reduceSub, Int.reduceMul, Int.reduceNeg, Int.reduceLT, Int.reduceLE, Int.reduceEq, Int.cast_ofNat_Int, eq_self, and_true, true_and, ite_self, true_or, or_true, false_or, or_false, and_false, false_and, not_true_eq_false, not_false_eq_true, if_true, if_false, e_R_loudest_0, e_R_loudest_14, e_R_loudest_51, e_R_loudest_67, e_R_loudest_73, q_isSlate, q_refuse]
    exact inv_st 1 hi
theorem lp_Rall (d : Nat) (u : Mem) (x : Int) (hx : 0 ≤ x ∧ x < 4) (hb : ∀ b, 0 ≤ b ∧ b < 91 → 0 ≤ u 147 (91 * x + b) ∧ u 147 (91 * x + b) ≤ 1000) (Q : Int → Mem → Prop) : ∀ (n : Nat) (k a : Int), 0 ≤ k → k + n = 91 → (0 ≤ a ∧ a ≤ 1000 * k) → Q (a + sg (fun b => u 147 (91 * x + b)) k n) (mset u 137 2 0) → EV (d + 1) o_R_all 22 [] [137, x, a, k] u Q := by
  intro n
  induction n with
  | zero =>
    intro k a h0 hk ha hq
    have : a + sg (fun b => u 147 (91 * x + b)) k 0 = a := Int.add_zero a
    rw [this] at hq
    rw [e_R_all_22]
    simp (disch := first | assumption | omega) only [rn, wk, al, wr_e, td_e, tm_e, mset_eq, mset_ne, if_pos, if_neg, Int.reduceAdd, Int.reduceSub, Int.reduceMul, Int.reduceNeg, Int.reduceLT, Int.reduceLE, Int.reduceEq, Int.cast_ofNat_Int, eq_self, and_true, true_and, ite_self, true_or, or_true, false_or, or_false, and_false, false_and, not_true_eq_false, not_false_eq_true, if_true, if_false, e_R_all_0, e_R_all_14, e_R_all_48, q_gives]
    exact hq
  | succ n ih =>
    intro k a h0 hk ha hq
    have := hb k (by omega)
    rw [e_R_all_22]
    simp (disch := first | assumption | omega) only [rn, wk, al, wr_e, td_e, tm_e, mset_eq, mset_ne, if_pos, if_neg, Int.reduceAdd, Int.reduceSub, Int.reduceMul, Int.reduceNeg, Int.reduceLT, Int.reduceLE, Int.reduceEq, Int.cast_ofNat_Int, eq_self, and_true, true_and, ite_self, true_or, or_true, false_or, or_false, and_false, false_and, not_true_eq_false, not_false_eq_true, if_true, if_false, e_R_all_0, e_R_all_14, e_R_all_48]
    refine ih (k + 1) (a + u 147 (91 * x + k)) (by omega) (by omega) (by omega) ?_
    rw [Int.add_assoc]
    exact hq
theorem ak_all (d : Nat) (x : Int) : Ak (d + 30) 134 315 [x] := by
  apply ak_of; intro s hi
  have hc := inv_c hi
  have hr := inv_rc hi
  have hv := VB_of (inv_va hi)
  have hk := vKs_of hi.2.2.2.2.1
  by_cases c1 : 0 ≤ x ∧ x < s 37 3
  · have q := q_totalOn (d + 25) isH37 s x hv hk c1
    apply c_M_all
    simp (disch := first | assumption | omega) only [rn, wk, al, wr_e, td_e, tm_e, mset_eq, mset_ne, if_pos, if_neg, Int.reduceAdd, Int.reduceSub, Int.reduceMul, Int.reduceNeg, Int.reduceLT, Int.reduceLE, Int.reduceEq, Int.cast_ofNat_Int, eq_self, and_true, true_and, ite_self, true_or, or_true, false_or, or_false, and_false, false_and, not_true_eq_false, not_false_eq_true, if_true, if_false, e_M_all_0, e_M_all_26, e_M_all_31, q_hasSlate, q, q_pass]
    apply c_R_all
    simp (disch := first | assumption | omega) only [rn, wk, al, wr_e, td_e, tm_e, mset_eq, mset_ne, if_pos, if_neg, Int.reduceAdd, Int.reduceSub, Int.reduceMul, Int.reduceNeg, Int.reduceLT, Int.reduceLE, Int.reduceEq, Int.cast_ofNat_Int, eq_self, and_true, true_and, ite_self, true_or, or_true, false_or, or_false, and_false, false_and, not_true_eq_false, not_false_eq_true, if_true, if_false, e_R_all_0, e_R_all_48, q_isSlate]
    rw [e_R_all_14]
    simp (disch := first | assumption | omega) only [rn, wk, al, wr_e, td_e, tm_e, mset_eq, mset_ne, if_pos, if_neg, Int.reduceAdd, Int.reduceSub, Int.reduceMul, Int.reduceNeg, Int.reduceLT, Int.reduceLE, Int.reduceEq, Int.cast_ofNat_Int, eq_self, and_true, true_and, ite_self, true_or, or_true, false_or, or_false, and_false, false_and, not_true_eq_false, not_false_eq_true, if_true, if_false]
    refine EV_call (CV_mono (ls_ hi _ (t := mset s 0 0 0) (mset_nc (by omega))) ?_)
    rintro r u ⟨u1, u2, u3, u4⟩
    have hu : ∀ b, 0 ≤ b ∧ b < 91 → u 147 (91 * x + b) = sb (win s 37) x b := by
      intro b hb
      rw [u4 x b (by omega) hb, if_pos (show x < win s 37 0 3 from c1.2)]
    refine lp_Rall _ u x (by omega) ?_ _ 91 0 0 (by omega) (by omega) (by omega) ?_
    · intro b hb
      rw [hu b hb]
      have := sb_ok hv hk b (x := x) c1
      omega
    · refine ⟨?_, inv_sums 0 hi (Fx_refl s 2) rfl u1⟩
      rw [Int.zero_add, ← sb_sum hv hk (x := x) c1]
      exact sg_congr 91 0 (fun b h1 h2 => hu b (by omega))
  · apply c_M_all
    simp (disch := first | assumption | omega) only [rn, wk, al, wr_e, td_e, tm_e, mset_eq, mset_ne, if_pos, if_neg, Int.reduceAdd, Int.reduceSub, Int.reduceMul, Int.reduceNeg, Int.reduceLT, Int.reduceLE, Int.reduceEq, Int.cast_ofNat_Int, eq_self, and_true, true_and, ite_self, true_or, or_true, false_or, or_false, and_false, false_and, not_true_eq_false, not_false_eq_true, if_true, if_false, e_M_all_0, e_M_all_26, e_M_all_31, q_hasSlate, q_fail]
    apply c_R_all
    simp (disch := first | assumption | omega) only [rn, wk, al, wr_e, td_e, tm_e, mset_eq, mset_ne, if_pos, if_neg, Int.reduceAdd, Int.reduceSub, Int.reduceMul, Int.reduceNeg, Int.reduceLT, Int.reduceLE, Int.reduceEq, Int.cast_ofNat_Int, eq_self, and_true, true_and, ite_self, true_or, or_true, false_or, or_false, and_false, false_and, not_true_eq_false, not_false_eq_true, if_true, if_false, e_R_all_0, e_R_all_14, e_R_all_48, q_isSlate, q_refuse]
    exact inv_st 1 hi
