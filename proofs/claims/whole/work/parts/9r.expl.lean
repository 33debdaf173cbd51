/-! ===== H2: explains, isUsed ===== -/
theorem lp_ex1 (d : Nat) (A s : Mem) (f : Int → Int → Int) (W : Int) (hS : exS A s f W) (Q : Int → Mem → Prop) (hL : ∀ u m z1 z2 z3, exI s u m → m ≤ 96 → (∀ x b, 0 ≤ x ∧ x < 4 → 0 ≤ b ∧ b < 91 → u 26 (4 * b + x) = s 26 (4 * b + x) - (if x < A 0 3 then sg (fun k => ptd A (f k x) (A 9 k) b) 0 (A 0 5).toNat else 0)) → (∀ j, 0 ≤ j ∧ j < 364 → 0 ≤ u 26 j) → EV (d + 3) o_Moves_explains 108 [] [24, 37, W, 1, A 0 5, z1, z2, z3] u Q) (hD : ∀ u m z1 z2 z3 z4, exI s u m → m ≤ 96 → ¬ Ex A f → EV (d + 3) o_Moves_explains 108 [] [24, 37, W, 0, z4, z1, z2, z3] u Q) : ∀ (n : Nat) (k : Nat) (u : Mem) (m : Nat) (z1 z2 z3 : Int), (k : Int) + n = A 0 5 → exJ A s u f k 0 m → EV (d + 3) o_Moves_explains 10 [] [24, 37, W, 1, k, z1, z2, z3] u Q := by
  have hS' := hS
  obtain ⟨hv, hks, hA, hf, hr, hlt, hW⟩ := hS'
  have h1 := hv.1
  unfold VC at h1
  have prc0 : ∀ (k : Nat) x b, 0 ≤ x → prc A f k 0 x b = if x < A 0 3 then sg (fun k => ptd A (f k x) (A 9 k) b) 0 k else 0 := by
    intro k x b hx
    unfold prc
    rw [if_neg (show ¬ x < 0 by omega), Int.add_zero]
  intro n
  induction n with
  | zero =>
    intro k u m z1 z2 z3 hk hJ
    obtain ⟨hI, hm, h26, hnn⟩ := hJ
    have g5 : u 37 5 = A 0 5 := by rw [hI.1 _ _ (by omega) (by omega) (by omega) (by omega), ← hA 0 (by omega) (by omega)]; rfl
    have ek : (A 0 5).toNat = k := by omega
    have hq := hL u m z1 z2 z3 hI (by omega) (fun x b hx hb => by rw [h26 x b hx hb, prc0 k x b hx.1, ek]) hnn
    rw [e_Moves_explains_10]
    simp (disch := first | assumption | omega) only [rn, wk, al, wr_e, td_e, tm_e, mset_eq, mset_ne, if_pos, if_neg, Int.reduceAdd, Int.reduceSub, Int.reduceMul, Int.reduceNeg, Int.reduceLT, Int.reduceLE, Int.reduceEq, Int.cast_ofNat_Int, eq_self, and_true, true_and, ite_self, true_or, or_true, false_or, or_false, and_false, false_and, not_true_eq_false, not_false_eq_true, if_true, if_false, g5]
    rw [show (k : Int) = A 0 5 by omega]; exact hq
  | succ n ih =>
    intro k u m z1 z2 z3 hk hJ
    have hI := hJ.1
    have g5 : u 37 5 = A 0 5 := by rw [hI.1 _ _ (by omega) (by omega) (by omega) (by omega), ← hA 0 (by omega) (by omega)]; rfl
    rw [e_Moves_explains_10]
    simp (disch := first | assumption | omega) only [rn, wk, al, wr_e, td_e, tm_e, mset_eq, mset_ne, if_pos, if_neg, Int.reduceAdd, Int.reduceSub, Int.reduceMul, Int.reduceNeg, Int.reduceLT, Int.reduceLE, Int.reduceEq, Int.cast_ofNat_Int, eq_self, and_true, true_and, ite_self, true_or, or_true, false_or, or_false, and_false, false_and, not_true_eq_false, not_false_eq_true, if_true, if_false, g5]
    refine lp_ex2 d A s f W hS k (by omega) Q ?_ ?_ (A 0 3).toNat 0 u m _ _ (by omega) (by omega) hJ
    · intro t m' y1 y2 y3 hJ'
      obtain ⟨hI', hm', h26', hnn'⟩ := hJ'
      have hx := ih (k + 1) t m' y1 y2 y3 (by omega) ⟨hI', by omega, fun x b hx hb => ?_, hnn'⟩
      · rw [show ((k + 1 : Nat) : Int) = (k : Int) + 1 by omega] at hx
        simp (disch := first | assumption | omega) only [rn, wk, al, wr_e, td_e, tm_e, mset_eq, mset_ne, if_pos, if_neg, Int.reduceAdd, Int.reduceSub, Int.reduceMul, Int.reduceNeg, Int.reduceLT, Int.reduceLE, Int.reduceEq, Int.cast_ofNat_Int, eq_self, and_true, true_and, ite_self, true_or, or_true, false_or, or_false, and_false, false_and, not_true_eq_false, not_false_eq_true, if_true, if_false, e_Moves_explains_0, e_Moves_explains_90, e_Moves_explains_94, e_Moves_explains_95, e_Moves_explains_102, e_Moves_explains_123, e_Moves_explains_124]
        exact hx
      · rw [h26' x b hx hb, prc0 (k + 1) x b hx.1]
        unfold prc
        by_cases c : x < A 0 3
        · rw [if_pos c, if_pos c, if_pos c, sg_last, Int.zero_add]
        · rw [if_neg c, if_neg c, if_neg c, Int.add_zero]
    · intro t m' y1 y2 y3 hI' hm' hE
      have hq := hD t m' y1 y2 y3 ((k : Int) + 1) hI' hm' hE
      simp (disch := first | assumption | omega) only [rn, wk, al, wr_e, td_e, tm_e, mset_eq, mset_ne, if_pos, if_neg, Int.reduceAdd, Int.reduceSub, Int.reduceMul, Int.reduceNeg, Int.reduceLT, Int.reduceLE, Int.reduceEq, Int.cast_ofNat_Int, eq_self, and_true, true_and, ite_self, true_or, or_true, false_or, or_false, and_false, false_and, not_true_eq_false, not_false_eq_true, if_true, if_false, e_Moves_explains_0, e_Moves_explains_90, e_Moves_explains_94, e_Moves_explains_95, e_Moves_explains_102, e_Moves_explains_123, e_Moves_explains_124]
      rw [e_Moves_explains_10]
      simp (disch := first | assumption | omega) only [rn, wk, al, wr_e, td_e, tm_e, mset_eq, mset_ne, if_pos, if_neg, Int.reduceAdd, Int.reduceSub, Int.reduceMul, Int.reduceNeg, Int.reduceLT, Int.reduceLE, Int.reduceEq, Int.cast_ofNat_Int, eq_self, and_true, true_and, ite_self, true_or, or_true, false_or, or_false, and_false, false_and, not_true_eq_false, not_false_eq_true, if_true, if_false]
      exact hq
theorem q_explains (d : Nat) (A s : Mem) (f : Int → Int → Int) (W : Int) (hS : exS A s f W) : CV (d + 4) 165 [24, 37, W] s fun r t => Fg s t ∧ (∀ j, 0 ≤ j ∧ j < 364 → t 26 j = s 26 j) ∧ t 24 4 = s 24 4 ∧ ((r = 1 ∧ Ex A f) ∨ (r = 0 ∧ ¬ Ex A f)) := by
  have hS' := hS
  obtain ⟨hv, hks, hA, hf, hr, hlt, hW⟩ := hS'
  have h1 := hv.1
  unfold VC at h1
  have hss := sg_bd (f := s 26) (m := 999) 364 0 (fun i a b => (hr i (by omega)).2)
  have hs0 : exI s (mset s 24 5 0) 0 := by
    refine ⟨fun c i y1 y2 y3 y4 => by rw [mset_ne (by omega)], by rw [mset_eq rfl rfl]; rfl, fun i hi => by omega, fun j hj => ?_, ?_⟩
    · rw [mset_ne (by omega)]; show s 26 j = s 26 j - 0; omega
    · rw [mset_ne (by omega)]; show s 24 4 = s 24 4 - 0; omega
  have fin : ∀ (u : Mem) (m : Nat) (r : Int), exI s u m → m ≤ 96 → ((r = 1 ∧ Ex A f) ∨ (r = 0 ∧ ¬ Ex A f)) → ∀ z1 z2 z3 z4, EV (d + 3) o_Moves_explains 124 [r] [24, 37, W, z4, z1, z2, z3, 0] u (fun r t => Fg s t ∧ (∀ j, 0 ≤ j ∧ j < 364 → t 26 j = s 26 j) ∧ t 24 4 = s 24 4 ∧ ((r = 1 ∧ Ex A f) ∨ (r = 0 ∧ ¬ Ex A f))) := by
    intro u m r hI hm hr' z1 z2 z3 z4
    have h01 : r = 0 ∨ r = 1 := by omega
    rw [e_Moves_explains_124]
    simp (disch := first | assumption | omega) only [rn, wk, al, wr_e, td_e, tm_e, mset_eq, mset_ne, if_pos, if_neg, Int.reduceAdd, Int.reduceSub, Int.reduceMul, Int.reduceNeg, Int.reduceLT, Int.reduceLE, Int.reduceEq, Int.cast_ofNat_Int, eq_self, and_true, true_and, ite_self, true_or, or_true, false_or, or_false, and_false, false_and, not_true_eq_false, not_false_eq_true, if_true, if_false]
    refine EV_call (CV_mono (q_giveBack (d + 2) s u m hm hI (fun j hj => by have := hr j hj; omega) (by omega)) ?_)
    rintro r' t ⟨t1, t2, t3⟩
    simp (disch := first | assumption | omega) only [rn, wk, al, wr_e, td_e, tm_e, mset_eq, mset_ne, if_pos, if_neg, Int.reduceAdd, Int.reduceSub, Int.reduceMul, Int.reduceNeg, Int.reduceLT, Int.reduceLE, Int.reduceEq, Int.cast_ofNat_Int, eq_self, and_true, true_and, ite_self, true_or, or_true, false_or, or_false, and_false, false_and, not_true_eq_false, not_false_eq_true, if_true, if_false]
    exact ⟨t1, t2, t3, hr'⟩
  have fin2 : ∀ (u : Mem) (m : Nat) (r : Int), exI s u m → m ≤ 96 → ((r = 1 ∧ Ex A f) ∨ (r = 0 ∧ ¬ Ex A f)) → ∀ z1 z2 z3 z4 z5, EV (d + 3) o_Moves_explains 124 [r] [24, 37, W, z4, z1, z2, z3, z5] u (fun r t => Fg s t ∧ (∀ j, 0 ≤ j ∧ j < 364 → t 26 j = s 26 j) ∧ t 24 4 = s 24 4 ∧ ((r = 1 ∧ Ex A f) ∨ (r = 0 ∧ ¬ Ex A f))) := by
    intro u m r hI hm hr' z1 z2 z3 z4 z5
    have h01 : r = 0 ∨ r = 1 := by omega
    rw [e_Moves_explains_124]
    simp (disch := first | assumption | omega) only [rn, wk, al, wr_e, td_e, tm_e, mset_eq, mset_ne, if_pos, if_neg, Int.reduceAdd, Int.reduceSub, Int.reduceMul, Int.reduceNeg, Int.reduceLT, Int.reduceLE, Int.reduceEq, Int.cast_ofNat_Int, eq_self, and_true, true_and, ite_self, true_or, or_true, false_or, or_false, and_false, false_and, not_true_eq_false, not_false_eq_true, if_true, if_false]
    refine EV_call (CV_mono (q_giveBack (d + 2) s u m hm hI (fun j hj => by have := hr j hj; omega) (by omega)) ?_)
    rintro r' t ⟨t1, t2, t3⟩
    simp (disch := first | assumption | omega) only [rn, wk, al, wr_e, td_e, tm_e, mset_eq, mset_ne, if_pos, if_neg, Int.reduceAdd, Int.reduceSub, Int.reduceMul, Int.reduceNeg, Int.reduceLT, Int.reduceLE, Int.reduceEq, Int.cast_ofNat_Int, eq_self, and_true, true_and, ite_self, true_or, or_true, false_or, or_false, and_false, false_and, not_true_eq_false, not_false_eq_true, if_true, if_false]
    exact ⟨t1, t2, t3, hr'⟩
  clear fin
  apply c_Moves_explains
  simp (disch := first | assumption | omega) only [rn, wk, al, wr_e, td_e, tm_e, mset_eq, mset_ne, if_pos, if_neg, Int.reduceAdd, Int.reduceSub, Int.reduceMul, Int.reduceNeg, Int.reduceLT, Int.reduceLE, Int.reduceEq, Int.cast_ofNat_Int, eq_self, and_true, true_and, ite_self, true_or, or_true, false_or, or_false, and_false, false_and, not_true_eq_false, not_false_eq_true, if_true, if_false, e_Moves_explains_0, e_Moves_explains_90, e_Moves_explains_94, e_Moves_explains_95, e_Moves_explains_102, e_Moves_explains_108, e_Moves_explains_123]
  refine lp_ex1 d A s f W hS _ ?_ ?_ (A 0 5).toNat 0 (mset s 24 5 0) 0 0 0 0 (by omega) ⟨hs0, by omega, fun x b hx hb => ?_, fun j hj => ?_⟩
  · intro u m z1 z2 z3 hI hm h26 hnn
    have hsum := S27_sum u m (fun i hi => (hI.2.2.1 i hi).1)
    have e1 : sg (u 26) 0 364 = sg (s 26) 0 364 - sg (u 28) 0 m := by
      rw [← hsum, ← sg_sub]
      exact sg_congr 364 0 (fun j a b => hI.2.2.2.1 j (by omega))
    have e4 : u 24 4 = sg (u 26) 0 364 := by rw [hI.2.2.2.2, e1, hlt]
    obtain ⟨n1, n2⟩ := sg_nn (f := u 26) 364 0 (fun j a b => hnn j (by omega))
    rw [e_Moves_explains_108]
    by_cases c : u 24 4 = 0
    · have hE : Ex A f := by
        intro x b hx hb
        have z := n2 (by omega) (4 * b + x) (by omega) (by omega)
        have q := h26 x b hx hb
        have g := (hr (4 * b + x) (by omega)).1
        omega
      have hq := fin2 u m 1 hI hm (Or.inl ⟨rfl, hE⟩) (A 0 5) z1 z2 1 z3
      simp (disch := first | assumption | omega) only [rn, wk, al, wr_e, td_e, tm_e, mset_eq, mset_ne, if_pos, if_neg, Int.reduceAdd, Int.reduceSub, Int.reduceMul, Int.reduceNeg, Int.reduceLT, Int.reduceLE, Int.reduceEq, Int.cast_ofNat_Int, eq_self, and_true, true_and, ite_self, true_or, or_true, false_or, or_false, and_false, false_and, not_true_eq_false, not_false_eq_true, if_true, if_false, e_Moves_explains_0, e_Moves_explains_90, e_Moves_explains_94, e_Moves_explains_95, e_Moves_explains_102, e_Moves_explains_108, e_Moves_explains_123]
      exact hq
    · have hE : ¬ Ex A f := by
        intro hE
        apply c
        rw [e4]
        refine sg_zero 364 0 _ (fun j a b => ?_)
        have q := h26 (j % 4) (j / 4) (by omega) (by omega)
        have e := hE (j % 4) (j / 4) (by omega) (by omega)
        rw [show 4 * (j / 4) + j % 4 = j by omega] at q e
        have g := (hr j (by omega)).1
        omega
      have hq := fin2 u m 0 hI hm (Or.inr ⟨rfl, hE⟩) (A 0 5) z1 z2 1 z3
      simp (disch := first | assumption | omega) only [rn, wk, al, wr_e, td_e, tm_e, mset_eq, mset_ne, if_pos, if_neg, Int.reduceAdd, Int.reduceSub, Int.reduceMul, Int.reduceNeg, Int.reduceLT, Int.reduceLE, Int.reduceEq, Int.cast_ofNat_Int, eq_self, and_true, true_and, ite_self, true_or, or_true, false_or, or_false, and_false, false_and, not_true_eq_false, not_false_eq_true, if_true, if_false, e_Moves_explains_0, e_Moves_explains_90, e_Moves_explains_94, e_Moves_explains_95, e_Moves_explains_102, e_Moves_explains_108, e_Moves_explains_123]
      exact hq
  · intro u m z1 z2 z3 z4 hI hm hE
    have hq := fin2 u m 0 hI hm (Or.inr ⟨rfl, hE⟩) z4 z1 z2 0 z3
    rw [e_Moves_explains_108]
    simp (disch := first | assumption | omega) only [rn, wk, al, wr_e, td_e, tm_e, mset_eq, mset_ne, if_pos, if_neg, Int.reduceAdd, Int.reduceSub, Int.reduceMul, Int.reduceNeg, Int.reduceLT, Int.reduceLE, Int.reduceEq, Int.cast_ofNat_Int, eq_self, and_true, true_and, ite_self, true_or, or_true, false_or, or_false, and_false, false_and, not_true_eq_false, not_false_eq_true, if_true, if_false, e_Moves_explains_0, e_Moves_explains_90, e_Moves_explains_94, e_Moves_explains_95, e_Moves_explains_102, e_Moves_explains_108, e_Moves_explains_123]
    exact hq
  · rw [mset_ne (by omega)]
    unfold prc
    rw [if_neg (show ¬ x < 0 by omega)]
    have : sg (fun k => ptd A (f k x) (A 9 k) b) 0 0 = 0 := rfl
    rw [this]
    split <;> omega
  · rw [mset_ne (by omega)]
    exact (hr j hj).2.1
theorem Ex_congr {A : Mem} {f g : Int → Int → Int} (h0 : 0 ≤ A 0 5) (h : ∀ k x, 0 ≤ k ∧ k < A 0 5 → 0 ≤ x ∧ x < A 0 3 → ∀ v b, ptd A (f k x) v b = ptd A (g k x) v b) : Ex A f ↔ Ex A g := by
  have e : ∀ x b, 0 ≤ x ∧ x < 4 → (if x < A 0 3 then sg (fun k => ptd A (f k x) (A 9 k) b) 0 (A 0 5).toNat else 0) = (if x < A 0 3 then sg (fun k => ptd A (g k x) (A 9 k) b) 0 (A 0 5).toNat else 0) := by
    intro x b hx
    by_cases c : x < A 0 3
    · rw [if_pos c, if_pos c]
      exact sg_congr _ 0 (fun i a b' => h i x (by omega) ⟨hx.1, c⟩ _ _)
    · rw [if_neg c, if_neg c]
  constructor
  · intro hE x b hx hb; rw [← e x b hx]; exact hE x b hx hb
  · intro hE x b hx hb; rw [e x b hx]; exact hE x b hx hb
theorem lp_iu2 (d : Nat) (A s : Mem) (W : Int) (h3 : s 37 3 = A 0 3 ∧ 0 ≤ A 0 3 ∧ A 0 3 ≤ 4) (hW : 0 ≤ W ∧ W ≤ 10000000) (hb : ∀ k x, 0 ≤ k ∧ k < A 0 5 → 0 ≤ x ∧ x < A 0 3 → (0 ≤ s 29 (4 * k + x) ∧ s 29 (4 * k + x) ≤ 10000000) ∧ (0 ≤ s 30 (4 * k + x) ∧ s 30 (4 * k + x) ≤ 20000000)) (k : Int) (hk : 0 ≤ k ∧ k < A 0 5 ∧ A 0 5 ≤ 8) (Q : Int → Mem → Prop) (q1 : Q 1 s) (q0 : (∀ x, 0 ≤ x ∧ x < A 0 3 → s 29 (4 * k + x) ≤ s 30 (4 * k + x) + W) → ∀ z1 z2, EV d o_Moves_isUsed 57 [] [24, 37, W, k, z1, z2] s Q) : ∀ (n : Nat) (x z : Int), 0 ≤ x → x + n = A 0 3 → (∀ x', 0 ≤ x' ∧ x' < x → s 29 (4 * k + x') ≤ s 30 (4 * k + x') + W) → EV d o_Moves_isUsed 13 [] [24, 37, W, k, x, z] s Q := by
  intro n
  induction n with
  | zero =>
    intro x z h0 hx hh
    have hq := q0 (fun x' hx' => hh x' (by omega)) x z
    rw [e_Moves_isUsed_13]
    simp (disch := first | assumption | omega) only [rn, wk, al, wr_e, td_e, tm_e, mset_eq, mset_ne, if_pos, if_neg, Int.reduceAdd, Int.reduceSub, Int.reduceMul, Int.reduceNeg, Int.reduceLT, Int.reduceLE, Int.reduceEq, Int.cast_ofNat_Int, eq_self, and_true, true_and, ite_self, true_or, or_true, false_or, or_false, and_false, false_and, not_true_eq_false, not_false_eq_true, if_true, if_false, h3.1]
    exact hq
  | succ n ih =>
    intro x z h0 hx hh
    have hbb := hb k x (by omega) (by omega)
    have e4 : k * 4 = 4 * k := by omega
    rw [e_Moves_isUsed_13]
    by_cases c : s 30 (4 * k + x) + W < s 29 (4 * k + x)
    · simp (disch := first | assumption | omega) only [rn, wk, al, wr_e, td_e, tm_e, mset_eq, mset_ne, if_pos, if_neg, Int.reduceAdd, Int.reduceSub, Int.reduceMul, Int.reduceNeg, Int.reduceLT, Int.reduceLE, Int.reduceEq, Int.cast_ofNat_Int, eq_self, and_true, true_and, ite_self, true_or, or_true, false_or, or_false, and_false, false_and, not_true_eq_false, not_false_eq_true, if_true, if_false, h3.1, e4]
      exact q1
    · simp (disch := first | assumption | omega) only [rn, wk, al, wr_e, td_e, tm_e, mset_eq, mset_ne, if_pos, if_neg, Int.reduceAdd, Int.reduceSub, Int.reduceMul, Int.reduceNeg, Int.reduceLT, Int.reduceLE, Int.reduceEq, Int.cast_ofNat_Int, eq_self, and_true, true_and, ite_self, true_or, or_true, false_or, or_false, and_false, false_and, not_true_eq_false, not_false_eq_true, if_true, if_false, e_Moves_isUsed_0, e_Moves_isUsed_51, e_Moves_isUsed_63, h3.1, e4]
      refine ih (x + 1) _ (by omega) (by omega) (fun x' hx' => ?_)
      by_cases e : x' = x
      · subst e; omega
      · exact hh x' (by omega)
theorem q_isUsed (d : Nat) (A s : Mem) (W : Int) (h3 : s 37 3 = A 0 3 ∧ 0 ≤ A 0 3 ∧ A 0 3 ≤ 4) (h5 : s 37 5 = A 0 5 ∧ 0 ≤ A 0 5 ∧ A 0 5 ≤ 8) (hW : 0 ≤ W ∧ W ≤ 10000000) (hb : ∀ k x, 0 ≤ k ∧ k < A 0 5 → 0 ≤ x ∧ x < A 0 3 → (0 ≤ s 29 (4 * k + x) ∧ s 29 (4 * k + x) ≤ 10000000) ∧ (0 ≤ s 30 (4 * k + x) ∧ s 30 (4 * k + x) ≤ 20000000)) : CV (d + 1) 168 [24, 37, W] s fun r t => t = s ∧ (r = 1 ∨ (r = 0 ∧ ∀ k x, 0 ≤ k ∧ k < A 0 5 → 0 ≤ x ∧ x < A 0 3 → s 29 (4 * k + x) ≤ s 30 (4 * k + x) + W)) := by
  have lp : ∀ (n : Nat) (k z1 z2 : Int), 0 ≤ k → k + n = A 0 5 → (∀ k' x, 0 ≤ k' ∧ k' < k → 0 ≤ x ∧ x < A 0 3 → s 29 (4 * k' + x) ≤ s 30 (4 * k' + x) + W) → EV d o_Moves_isUsed 2 [] [24, 37, W, k, z1, z2] s (fun r t => t = s ∧ (r = 1 ∨ (r = 0 ∧ ∀ k x, 0 ≤ k ∧ k < A 0 5 → 0 ≤ x ∧ x < A 0 3 → s 29 (4 * k + x) ≤ s 30 (4 * k + x) + W))) := by
    intro n
    induction n with
    | zero =>
      intro k z1 z2 h0 hk hh
      have hq : ∀ k x, 0 ≤ k ∧ k < A 0 5 → 0 ≤ x ∧ x < A 0 3 → s 29 (4 * k + x) ≤ s 30 (4 * k + x) + W := fun k' x a b => hh k' x (by omega) b
      rw [e_Moves_isUsed_2]
      simp (disch := first | assumption | omega) only [rn, wk, al, wr_e, td_e, tm_e, mset_eq, mset_ne, if_pos, if_neg, Int.reduceAdd, Int.reduceSub, Int.reduceMul, Int.reduceNeg, Int.reduceLT, Int.reduceLE, Int.reduceEq, Int.cast_ofNat_Int, eq_self, and_true, true_and, ite_self, true_or, or_true, false_or, or_false, and_false, false_and, not_true_eq_false, not_false_eq_true, if_true, if_false, e_Moves_isUsed_0, e_Moves_isUsed_51, e_Moves_isUsed_57, e_Moves_isUsed_63, h5.1]
      exact hq
    | succ n ih =>
      intro k z1 z2 h0 hk hh
      rw [e_Moves_isUsed_2]
      simp (disch := first | assumption | omega) only [rn, wk, al, wr_e, td_e, tm_e, mset_eq, mset_ne, if_pos, if_neg, Int.reduceAdd, Int.reduceSub, Int.reduceMul, Int.reduceNeg, Int.reduceLT, Int.reduceLE, Int.reduceEq, Int.cast_ofNat_Int, eq_self, and_true, true_and, ite_self, true_or, or_true, false_or, or_false, and_false, false_and, not_true_eq_false, not_false_eq_true, if_true, if_false, h5.1]
      refine lp_iu2 d A s W h3 hW hb k (by omega) _ ⟨rfl, Or.inl rfl⟩ ?_ (A 0 3).toNat 0 _ (by omega) (by omega) (fun x' hx' => by omega)
      intro hx y1 y2
      simp (disch := first | assumption | omega) only [rn, wk, al, wr_e, td_e, tm_e, mset_eq, mset_ne, if_pos, if_neg, Int.reduceAdd, Int.reduceSub, Int.reduceMul, Int.reduceNeg, Int.reduceLT, Int.reduceLE, Int.reduceEq, Int.cast_ofNat_Int, eq_self, and_true, true_and, ite_self, true_or, or_true, false_or, or_false, and_false, false_and, not_true_eq_false, not_false_eq_true, if_true, if_false, e_Moves_isUsed_0, e_Moves_isUsed_51, e_Moves_isUsed_57, e_Moves_isUsed_63]
      refine ih (k + 1) _ _ (by omega) (by omega) (fun k' x a b => ?_)
      by_cases e : k' = k
      · subst e; exact hx x b
      · exact hh k' x (by omega) b
  apply c_Moves_isUsed
  simp (disch := first | assumption | omega) only [rn, wk, al, wr_e, td_e, tm_e, mset_eq, mset_ne, if_pos, if_neg, Int.reduceAdd, Int.reduceSub, Int.reduceMul, Int.reduceNeg, Int.reduceLT, Int.reduceLE, Int.reduceEq, Int.cast_ofNat_Int, eq_self, and_true, true_and, ite_self, true_or, or_true, false_or, or_false, and_false, false_and, not_true_eq_false, not_false_eq_true, if_true, if_false, e_Moves_isUsed_0, e_Moves_isUsed_51, e_Moves_isUsed_57, e_Moves_isUsed_63]
  exact lp (A 0 5).toNat 0 0 0 (by omega) (by omega) (fun k' x a b => by omega)
