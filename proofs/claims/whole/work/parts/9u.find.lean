/-! ===== H2: find ===== -/
theorem lp_fo1 (d : Nat) (A s : Mem) (hK : KA A) (D : Int → Int → Int) (w k : Int) (hwr : 0 ≤ w ∧ w < A 0 2) (hD : Fpost A w 1000 10000000 D) (ew : Int) (hew : (ew = 1 ∧ Ex A (fW A D w 10000000)) ∨ (ew = 0 ∧ ¬ Ex A (fW A D w 10000000))) (Q : Int → Mem → Prop) (hQ : ∀ u, Fmv s u → PP A u D w → mvI A u k (90 * (w + 1)) → Q 0 u) : ∀ (n : Nat) (z : Int) (u : Mem) (z1 z2 z3 : Int), 1 ≤ z → z + n = 10 → Fmv s u → PP A u D w → mvI A u k (90 * w + 10 * (z - 1)) → EV (d + 4) o_Moves_findOf 12 [] [24, 37, w, k, ew, z, z1, z2, z3] u Q := by
  intro n
  induction n with
  | zero =>
    intro z u z1 z2 z3 h0 hz hf hP hm
    rw [show 90 * w + 10 * (z - 1) = 90 * (w + 1) by omega] at hm
    have hq := hQ u hf hP hm
    rw [e_Moves_findOf_12]
    simp (disch := first | assumption | omega) only [rn, wk, al, wr_e, td_e, tm_e, mset_eq, mset_ne, if_pos, if_neg, Int.reduceAdd, Int.reduceSub, Int.reduceMul, Int.reduceNeg, Int.reduceLT, Int.reduceLE, Int.reduceEq, Int.cast_ofNat_Int, eq_self, and_true, true_and, ite_self, true_or, or_true, false_or, or_false, and_false, false_and, not_true_eq_false, not_false_eq_true, if_true, if_false, e_Moves_findOf_0, e_Moves_findOf_55, e_Moves_findOf_56, e_Moves_findOf_97, e_Moves_findOf_102, e_Moves_findOf_112, e_Moves_findOf_118, e_Moves_findOf_124]
    exact hq
  | succ n ih =>
    intro z u z1 z2 z3 h0 hz hf hP hm
    rw [e_Moves_findOf_12]
    simp (disch := first | assumption | omega) only [rn, wk, al, wr_e, td_e, tm_e, mset_eq, mset_ne, if_pos, if_neg, Int.reduceAdd, Int.reduceSub, Int.reduceMul, Int.reduceNeg, Int.reduceLT, Int.reduceLE, Int.reduceEq, Int.cast_ofNat_Int, eq_self, and_true, true_and, ite_self, true_or, or_true, false_or, or_false, and_false, false_and, not_true_eq_false, not_false_eq_true, if_true, if_false]
    refine lp_fo2 d A s hK D w k hwr hD ew hew z (by omega) Q ?_ 10 0 u _ _ (by omega) (by omega) hf hP (by rw [Int.add_zero]; exact hm)
    intro t y1 y2 y3 a b c
    simp (disch := first | assumption | omega) only [rn, wk, al, wr_e, td_e, tm_e, mset_eq, mset_ne, if_pos, if_neg, Int.reduceAdd, Int.reduceSub, Int.reduceMul, Int.reduceNeg, Int.reduceLT, Int.reduceLE, Int.reduceEq, Int.cast_ofNat_Int, eq_self, and_true, true_and, ite_self, true_or, or_true, false_or, or_false, and_false, false_and, not_true_eq_false, not_false_eq_true, if_true, if_false, e_Moves_findOf_0, e_Moves_findOf_55, e_Moves_findOf_56, e_Moves_findOf_97, e_Moves_findOf_102, e_Moves_findOf_112, e_Moves_findOf_118, e_Moves_findOf_124]
    refine ih (z + 1) t _ _ _ (by omega) (by omega) a b ?_
    rw [show 90 * w + 10 * (z + 1 - 1) = 90 * w + 10 * z by omega]; exact c
theorem q_findOf (d : Nat) (A u : Mem) (hK : KA A) (D : Int → Int → Int) (w k : Int) (hwr : 0 ≤ w ∧ w < A 0 2) (hD : Fpost A w 1000 10000000 D) (hP : PP A u D w) (hm : mvI A u k (90 * w)) : CV (d + 5) 164 [24, 37, w, k] u fun _ t => Fmv u t ∧ PP A t D w ∧ mvI A t k (90 * (w + 1)) := by
  apply c_Moves_findOf
  simp (disch := first | assumption | omega) only [rn, wk, al, wr_e, td_e, tm_e, mset_eq, mset_ne, if_pos, if_neg, Int.reduceAdd, Int.reduceSub, Int.reduceMul, Int.reduceNeg, Int.reduceLT, Int.reduceLE, Int.reduceEq, Int.cast_ofNat_Int, eq_self, and_true, true_and, ite_self, true_or, or_true, false_or, or_false, and_false, false_and, not_true_eq_false, not_false_eq_true, if_true, if_false, e_Moves_findOf_0, e_Moves_findOf_55, e_Moves_findOf_56, e_Moves_findOf_97, e_Moves_findOf_102, e_Moves_findOf_112, e_Moves_findOf_118, e_Moves_findOf_124]
  refine EV_call (CV_mono (q_explains d A u (fW A D w 10000000) 10000000 (exS_of hK hwr hD hP (Or.inl rfl))) ?_)
  rintro r t ⟨x1, x2, x3, hE⟩
  refine lp_fo1 d A u hK D w k hwr hD r hE _ (fun t a b c => ⟨a, b, c⟩) 9 1 t _ _ _ (by omega) (by omega) (fun c i h => x1 c i (by omega) (by omega) (by omega) (by omega)) (PP_congr (fun c i y1 y2 y3 y4 => by
    by_cases e : c = 24 ∧ i = 4
    · rw [e.1, e.2]; exact x3
    · exact x1 c i (by omega) y1 y2 (by omega)) x2 hP) ?_
  rw [show 90 * w + 10 * (1 - 1) = 90 * w by omega]
  obtain ⟨m1, m2⟩ := hm
  have g : ∀ i, 0 ≤ i ∧ i ≤ 3 → t 24 i = u 24 i := fun i hi => x1 _ _ (by omega) (by omega) (by omega) (by omega)
  refine ⟨by rw [g 0 (by omega)]; exact m1, fun j hj hH hc => ?_⟩
  rw [g 1 (by omega), g 2 (by omega), g 3 (by omega)]; exact m2 j hj hH hc
/-- the pairs, by the table D in cell 25 -/
def prP (A u : Mem) (D : Int → Int → Int) (w k x : Int) : Prop := u 29 (4 * k + x) = D (A 6 (A 9 k / 63)) (A 5 x) ∧ u 30 (4 * k + x) = min (D (A 6 (A 9 k / 63)) (A 2 (2 * w)) + D (A 2 (2 * w + 1)) (A 5 x)) (D (A 6 (A 9 k / 63)) (A 2 (2 * w + 1)) + D (A 2 (2 * w)) (A 5 x))
def F23 (s u : Mem) : Prop := ∀ c i, c ≠ 29 → c ≠ 30 → u c i = s c i
theorem lp_mp2 (d : Nat) (A s : Mem) (hK : KA A) (D : Int → Int → Int) (w : Int) (hwr : 0 ≤ w ∧ w < A 0 2) (hD : Fpost A w 1000 10000000 D) (hA : ∀ k, 0 ≤ k → k < 20 → win s 37 k = A k) (h25 : ∀ a b, 0 ≤ a ∧ a < A 0 1 → 0 ≤ b ∧ b < A 0 1 → s 25 (7 * a + b) = D a b) (k : Int) (hk1 : 0 ≤ k ∧ k < A 0 5) (Q : Int → Mem → Prop) (hQ : ∀ u z1 z2 z3 z4, F23 s u → (∀ k' x, 0 ≤ k' ∧ k' < k + 1 → 0 ≤ x ∧ x < A 0 3 → prP A u D w k' x) → EV (d + 2) o_Moves_measurePairs 144 [] [24, 37, A 2 (2 * w), A 2 (2 * w + 1), k, A 6 (A 9 k / 63) * 7, z1, z2, z3, z4] u Q) : ∀ (n : Nat) (x : Int) (u : Mem) (z2 z3 z4 : Int), 0 ≤ x → x + n = A 0 3 → F23 s u → (∀ k' x', 0 ≤ k' ∧ k' < k → 0 ≤ x' ∧ x' < A 0 3 → prP A u D w k' x') → (∀ x', 0 ≤ x' ∧ x' < x → prP A u D w k x') → EV (d + 2) o_Moves_measurePairs 31 [] [24, 37, A 2 (2 * w), A 2 (2 * w + 1), k, A 6 (A 9 k / 63) * 7, x, z2, z3, z4] u Q := by
  obtain ⟨hc, hw, hvs, hvl, hvn, hk, hr⟩ := hK
  have hcc := hc
  unfold VC at hcc
  have hv := hw w hwr
  have hvk := hk k hk1
  have hq := vQ_c hvk.2.2
  rw [show A 9 k / 21 / 3 = A 9 k / 63 by omega] at hq
  have ha := (hvl _ hq).1
  intro n
  induction n with
  | zero =>
    intro x u z2 z3 z4 h0 hx hf h1 h2
    have g3 : u 37 3 = A 0 3 := by rw [hf _ _ (by omega) (by omega), ← hA 0 (by omega) (by omega)]; rfl
    have hq := hQ u x z2 z3 z4 hf (fun k' x' a b => by
      by_cases e : k' = k
      · subst e; exact h2 x' (by omega)
      · exact h1 k' x' (by omega) b)
    rw [e_Moves_measurePairs_31]
    simp (disch := first | assumption | omega) only [rn, wk, al, wr_e, td_e, tm_e, mset_eq, mset_ne, if_pos, if_neg, Int.reduceAdd, Int.reduceSub, Int.reduceMul, Int.reduceNeg, Int.reduceLT, Int.reduceLE, Int.reduceEq, Int.cast_ofNat_Int, eq_self, and_true, true_and, ite_self, true_or, or_true, false_or, or_false, and_false, false_and, not_true_eq_false, not_false_eq_true, if_true, if_false, g3]
    exact hq
  | succ n ih =>
    intro x u z2 z3 z4 h0 hx hf h1 h2
    have g3 : u 37 3 = A 0 3 := by rw [hf _ _ (by omega) (by omega), ← hA 0 (by omega) (by omega)]; rfl
    have g5 : u 42 x = A 5 x := by rw [hf _ _ (by omega) (by omega), ← hA 5 (by omega) (by omega)]; rfl
    have hp := hvs x (by omega)
    have t : ∀ a b, 0 ≤ a ∧ a < A 0 1 → 0 ≤ b ∧ b < A 0 1 → u 25 (a * 7 + b) = D a b := fun a b a1 b1 => by
      rw [hf _ _ (by omega) (by omega), Int.mul_comm]; exact h25 a b a1 b1
    have t1 := t _ _ ha hv.1
    have t2 := t _ _ hv.2.1 hp
    have t3 := t _ _ ha hv.2.1
    have t4 := t _ _ hv.1 hp
    have t5 := t _ _ ha hp
    have b2 := D_b hc hw hD ha hv.1
    have b3 := D_b hc hw hD hv.2.1 hp
    have b4 := D_b hc hw hD ha hv.2.1
    have b5 := D_b hc hw hD hv.1 hp
    have e4 : k * 4 = 4 * k := by omega
    rw [e_Moves_measurePairs_31]
    simp (disch := first | assumption | omega) only [rn, wk, al, wr_e, td_e, tm_e, mset_eq, mset_ne, if_pos, if_neg, Int.reduceAdd, Int.reduceSub, Int.reduceMul, Int.reduceNeg, Int.reduceLT, Int.reduceLE, Int.reduceEq, Int.cast_ofNat_Int, eq_self, and_true, true_and, ite_self, true_or, or_true, false_or, or_false, and_false, false_and, not_true_eq_false, not_false_eq_true, if_true, if_false, g3, g5, t1, t2, t3, t4, t5, e4]
    refine ih (x + 1) _ _ _ _ (by omega) (by omega) ?_ ?_ ?_
    · intro c i y1 y2
      rw [mset_ne (by omega), mset_ne (by omega)]; exact hf c i y1 y2
    · intro k' x' a b
      have := h1 k' x' a b
      unfold prP at this ⊢
      rw [mset_ne (by omega), mset_ne (by omega), mset_ne (by omega), mset_ne (by omega)]; exact this
    · intro x' hx'
      by_cases e : x' = x
      · subst e
        unfold prP
        rw [mset_ne (by omega), mset_eq rfl rfl, mset_eq rfl rfl]; exact ⟨rfl, rfl⟩
      · have := h2 x' (by omega)
        unfold prP at this ⊢
        rw [mset_ne (by omega), mset_ne (by omega), mset_ne (by omega), mset_ne (by omega)]; exact this
theorem q_measurePairs (d : Nat) (A s : Mem) (hK : KA A) (D : Int → Int → Int) (w : Int) (hwr : 0 ≤ w ∧ w < A 0 2) (hD : Fpost A w 1000 10000000 D) (hA : ∀ k, 0 ≤ k → k < 20 → win s 37 k = A k) (h25 : ∀ a b, 0 ≤ a ∧ a < A 0 1 → 0 ≤ b ∧ b < A 0 1 → s 25 (7 * a + b) = D a b) : CV (d + 3) 163 [24, 37, A 2 (2 * w), A 2 (2 * w + 1)] s fun _ u => F23 s u ∧ ∀ k x, 0 ≤ k ∧ k < A 0 5 → 0 ≤ x ∧ x < A 0 3 → prP A u D w k x := by
  have hK' := hK
  obtain ⟨hc, hw, hvs, hvl, hvn, hk, hr⟩ := hK'
  have hcc := hc
  unfold VC at hcc
  have lp : ∀ (n : Nat) (k : Int) (u : Mem) (z0 z1 z2 z3 z4 : Int), 0 ≤ k → k + n = A 0 5 → F23 s u → (∀ k' x, 0 ≤ k' ∧ k' < k → 0 ≤ x ∧ x < A 0 3 → prP A u D w k' x) → EV (d + 2) o_Moves_measurePairs 3 [] [24, 37, A 2 (2 * w), A 2 (2 * w + 1), k, z0, z1, z2, z3, z4] u (fun _ u => F23 s u ∧ ∀ k x, 0 ≤ k ∧ k < A 0 5 → 0 ≤ x ∧ x < A 0 3 → prP A u D w k x) := by
    intro n
    induction n with
    | zero =>
      intro k u z0 z1 z2 z3 z4 h0 hk1 hf h1
      have g5 : u 37 5 = A 0 5 := by rw [hf _ _ (by omega) (by omega), ← hA 0 (by omega) (by omega)]; rfl
      have hq : F23 s u ∧ ∀ k x, 0 ≤ k ∧ k < A 0 5 → 0 ≤ x ∧ x < A 0 3 → prP A u D w k x := ⟨hf, fun k' x a b => h1 k' x (by omega) b⟩
      rw [e_Moves_measurePairs_3]
      simp (disch := first | assumption | omega) only [rn, wk, al, wr_e, td_e, tm_e, mset_eq, mset_ne, if_pos, if_neg, Int.reduceAdd, Int.reduceSub, Int.reduceMul, Int.reduceNeg, Int.reduceLT, Int.reduceLE, Int.reduceEq, Int.cast_ofNat_Int, eq_self, and_true, true_and, ite_self, true_or, or_true, false_or, or_false, and_false, false_and, not_true_eq_false, not_false_eq_true, if_true, if_false, e_Moves_measurePairs_0, e_Moves_measurePairs_144, e_Moves_measurePairs_150, g5]
      exact hq
    | succ n ih =>
      intro k u z0 z1 z2 z3 z4 h0 hk1 hf h1
      have g5 : u 37 5 = A 0 5 := by rw [hf _ _ (by omega) (by omega), ← hA 0 (by omega) (by omega)]; rfl
      have g9 : ∀ j, u 46 j = A 9 j := fun j => by rw [hf _ _ (by omega) (by omega), ← hA 9 (by omega) (by omega)]; rfl
      have g6 : ∀ j, u 43 j = A 6 j := fun j => by rw [hf _ _ (by omega) (by omega), ← hA 6 (by omega) (by omega)]; rfl
      have hvk := hk k (by omega)
      have hq := vQ_c hvk.2.2
      rw [show A 9 k / 21 / 3 = A 9 k / 63 by omega] at hq
      have ha := (hvl _ hq).1
      have hv0 := hvk.1
      have hv1 := hvk.2.1
      have qc := q_callerOf (d + 0) isH37 k u (by omega) (by simp only [Int.reduceAdd]; rw [g9]; omega)
      simp only [Int.reduceAdd, g9] at qc
      rw [e_Moves_measurePairs_3]
      simp (disch := first | assumption | omega) only [rn, wk, al, wr_e, td_e, tm_e, mset_eq, mset_ne, if_pos, if_neg, Int.reduceAdd, Int.reduceSub, Int.reduceMul, Int.reduceNeg, Int.reduceLT, Int.reduceLE, Int.reduceEq, Int.cast_ofNat_Int, eq_self, and_true, true_and, ite_self, true_or, or_true, false_or, or_false, and_false, false_and, not_true_eq_false, not_false_eq_true, if_true, if_false, g5, qc, g6]
      refine lp_mp2 d A s hK D w hwr hD hA h25 k (by omega) _ ?_ (A 0 3).toNat 0 u _ _ _ (by omega) (by omega) hf h1 (fun x' hx' => by omega)
      intro t y1 y2 y3 y4 a b
      simp (disch := first | assumption | omega) only [rn, wk, al, wr_e, td_e, tm_e, mset_eq, mset_ne, if_pos, if_neg, Int.reduceAdd, Int.reduceSub, Int.reduceMul, Int.reduceNeg, Int.reduceLT, Int.reduceLE, Int.reduceEq, Int.cast_ofNat_Int, eq_self, and_true, true_and, ite_self, true_or, or_true, false_or, or_false, and_false, false_and, not_true_eq_false, not_false_eq_true, if_true, if_false, e_Moves_measurePairs_0, e_Moves_measurePairs_144, e_Moves_measurePairs_150]
      exact ih (k + 1) t _ _ _ _ _ (by omega) (by omega) a b
  apply c_Moves_measurePairs
  simp (disch := first | assumption | omega) only [rn, wk, al, wr_e, td_e, tm_e, mset_eq, mset_ne, if_pos, if_neg, Int.reduceAdd, Int.reduceSub, Int.reduceMul, Int.reduceNeg, Int.reduceLT, Int.reduceLE, Int.reduceEq, Int.cast_ofNat_Int, eq_self, and_true, true_and, ite_self, true_or, or_true, false_or, or_false, and_false, false_and, not_true_eq_false, not_false_eq_true, if_true, if_false, e_Moves_measurePairs_0, e_Moves_measurePairs_144, e_Moves_measurePairs_150]
  exact lp (A 0 5).toNat 0 s _ _ _ _ _ (by omega) (by omega) (fun _ _ _ _ => rfl) (fun k' x a b => by omega)
theorem lp_find (d : Nat) (A s : Mem) (hK : KA A) (k : Int) (Q : Int → Mem → Prop) (hQ : ∀ u, Fmv s u → mvI A u k (90 * A 0 2) → (∀ w, 0 ≤ w ∧ w < A 0 2 → ∃ D, Fpost A w 1000 10000000 D) → Q 0 u) : ∀ (n : Nat) (w : Int) (u : Mem), 0 ≤ w → w + n = A 0 2 → Fmv s u → (∀ k, 0 ≤ k → k < 20 → win u 37 k = A k) → (∀ j, 0 ≤ j ∧ j < 364 → u 26 j = A 10 j) → u 24 4 = sg (A 10) 0 364 → mvI A u k (90 * w) → (∀ w', 0 ≤ w' ∧ w' < w → ∃ D, Fpost A w' 1000 10000000 D) → EV (d + 5) o_Moves_find 31 [] [24, 37, k, w] u Q := by
  have hK' := hK
  obtain ⟨hc, hw, hvs, hvl, hvn, hk, hr⟩ := hK'
  have hcc := hc
  unfold VC at hcc
  intro n
  induction n with
  | zero =>
    intro w u h0 hn hf hA h26 h4 hm hE
    have ew : w = A 0 2 := by omega
    subst ew
    have g2 : u 37 2 = A 0 2 := by rw [← hA 0 (by omega) (by omega)]; rfl
    have hq := hQ u hf hm hE
    rw [e_Moves_find_31]
    simp (disch := first | assumption | omega) only [rn, wk, al, wr_e, td_e, tm_e, mset_eq, mset_ne, if_pos, if_neg, Int.reduceAdd, Int.reduceSub, Int.reduceMul, Int.reduceNeg, Int.reduceLT, Int.reduceLE, Int.reduceEq, Int.cast_ofNat_Int, eq_self, and_true, true_and, ite_self, true_or, or_true, false_or, or_false, and_false, false_and, not_true_eq_false, not_false_eq_true, if_true, if_false, e_Moves_find_0, e_Moves_find_84, g2]
    exact hq
  | succ n ih =>
    intro w u h0 hn hf hA h26 h4 hm hE
    have g2 : u 37 2 = A 0 2 := by rw [← hA 0 (by omega) (by omega)]; rfl
    have hv := hw w (by omega)
    rw [e_Moves_find_31]
    simp (disch := first | assumption | omega) only [rn, wk, al, wr_e, td_e, tm_e, mset_eq, mset_ne, if_pos, if_neg, Int.reduceAdd, Int.reduceSub, Int.reduceMul, Int.reduceNeg, Int.reduceLT, Int.reduceLE, Int.reduceEq, Int.cast_ofNat_Int, eq_self, and_true, true_and, ite_self, true_or, or_true, false_or, or_false, and_false, false_and, not_true_eq_false, not_false_eq_true, if_true, if_false, g2]
    have hwinC : VC (win u 37) := by unfold VC; rw [hA 0 (by omega) (by omega)]; exact hc
    have hwinW : VW (win u 37) := by unfold VW; rw [hA 0 (by omega) (by omega), hA 2 (by omega) (by omega), hA 3 (by omega) (by omega), hA 4 (by omega) (by omega)]; exact hw
    refine EV_call (CV_mono (q_measure (d + 2) isH37 25 w u rfl (by omega) hwinC hwinW) ?_)
    rintro r t ⟨t1, t2⟩
    have t2' : Fpost A w 1000 10000000 (fun a b => t 25 (7 * a + b)) := Fpost_congr (by rw [hA 0 (by omega) (by omega)]) (by rw [hA 0 (by omega) (by omega)]) (hA 2 (by omega) (by omega)).symm (hA 3 (by omega) (by omega)).symm (hA 4 (by omega) (by omega)).symm t2
    have hAt : ∀ k, 0 ≤ k → k < 20 → win t 37 k = A k := fun k' a b => by rw [← hA k' a b]; funext i; exact t1 _ _ (by omega)
    have g39 : ∀ i, t 39 i = A 2 i := fun i => by rw [← hAt 2 (by omega) (by omega)]; rfl
    simp (disch := first | assumption | omega) only [rn, wk, al, wr_e, td_e, tm_e, mset_eq, mset_ne, if_pos, if_neg, Int.reduceAdd, Int.reduceSub, Int.reduceMul, Int.reduceNeg, Int.reduceLT, Int.reduceLE, Int.reduceEq, Int.cast_ofNat_Int, eq_self, and_true, true_and, ite_self, true_or, or_true, false_or, or_false, and_false, false_and, not_true_eq_false, not_false_eq_true, if_true, if_false, g39]
    refine EV_call (CV_mono (q_measurePairs (d + 2) A t hK (fun a b => t 25 (7 * a + b)) w (by omega) t2' hAt (fun a b _ _ => rfl)) ?_)
    rintro r' v ⟨v1, v2⟩
    have hPP : PP A v (fun a b => t 25 (7 * a + b)) w := by
      refine ⟨fun k' a b => by rw [← hAt k' a b]; funext i; exact v1 _ _ (by omega) (by omega), fun j hj => by rw [v1 _ _ (by omega) (by omega), t1 _ _ (by omega)]; exact h26 j hj, by rw [v1 _ _ (by omega) (by omega), t1 _ _ (by omega)]; exact h4, fun k' x a b => v2 k' x a b⟩
    have hmv : mvI A v k (90 * w) := by
      obtain ⟨m1, m2⟩ := hm
      have g : ∀ i, v 24 i = u 24 i := fun i => by rw [v1 _ _ (by omega) (by omega), t1 _ _ (by omega)]
      refine ⟨by rw [g]; exact m1, fun j hj hH hc' => by rw [g, g, g]; exact m2 j hj hH hc'⟩
    refine EV_call (CV_mono (q_findOf d A v hK _ w k (by omega) t2' hPP hmv) ?_)
    rintro r2 y ⟨y1, y2, y3⟩
    refine ih (w + 1) y (by omega) (by omega) (fun c i h => by rw [y1 c i h, v1 c i (by omega) (by omega), t1 c i (by omega)]; exact hf c i h) y2.1 y2.2.1 y2.2.2.1 y3 (fun w' hw' => ?_)
    by_cases e : w' = w
    · subst e; exact ⟨_, t2'⟩
    · exact hE w' (by omega)
theorem q_totalKept (d : Nat) {h : Int} (hh : isH h) (s : Mem) (hb : ∀ j, 0 ≤ j ∧ j < 364 → 0 ≤ s (h + 10) j ∧ s (h + 10) j ≤ 999) : sem (d + 1) 142 [h] s = some (sg (s (h + 10)) 0 364, s) := by
  have lp : ∀ (n : Nat) (k a : Int), 0 ≤ k → k + n = 364 → (0 ≤ a ∧ a ≤ 999 * k) → ∀ Q : Int → Mem → Prop, Q (a + sg (s (h + 10)) k n) s → EV d o_Hall_totalKept 4 [] [h, a, k] s Q := by
    intro n
    induction n with
    | zero =>
      intro k a h0 hk ha Q hq
      have : a + sg (s (h + 10)) k 0 = a := Int.add_zero a
      rw [this] at hq
      rw [e_Hall_totalKept_4]
      simp (disch := first | assumption | omega) only [rn, wk, al, wr_e, td_e, tm_e, mset_eq, mset_ne, if_pos, if_neg, Int.reduceAdd, Int.reduceSub, Int.reduceMul, Int.reduceNeg, Int.reduceLT, Int.reduceLE, Int.reduceEq, Int.cast_ofNat_Int, eq_self, and_true, true_and, ite_self, true_or, or_true, false_or, or_false, and_false, false_and, not_true_eq_false, not_false_eq_true, if_true, if_false, e_Hall_totalKept_0, e_Hall_totalKept_26]
      exact hq
    | succ n ih =>
      intro k a h0 hk ha Q hq
      have := hb k (by omega)
      rw [e_Hall_totalKept_4]
      simp (disch := first | assumption | omega) only [rn, wk, al, wr_e, td_e, tm_e, mset_eq, mset_ne, if_pos, if_neg, Int.reduceAdd, Int.reduceSub, Int.reduceMul, Int.reduceNeg, Int.reduceLT, Int.reduceLE, Int.reduceEq, Int.cast_ofNat_Int, eq_self, and_true, true_and, ite_self, true_or, or_true, false_or, or_false, and_false, false_and, not_true_eq_false, not_false_eq_true, if_true, if_false, e_Hall_totalKept_0, e_Hall_totalKept_26, ah hh]
      refine ih (k + 1) (a + s (h + 10) k) (by omega) (by omega) (by omega) Q ?_
      rw [Int.add_assoc]
      exact hq
  apply CV_eq; apply c_Hall_totalKept
  simp (disch := first | assumption | omega) only [rn, wk, al, wr_e, td_e, tm_e, mset_eq, mset_ne, if_pos, if_neg, Int.reduceAdd, Int.reduceSub, Int.reduceMul, Int.reduceNeg, Int.reduceLT, Int.reduceLE, Int.reduceEq, Int.cast_ofNat_Int, eq_self, and_true, true_and, ite_self, true_or, or_true, false_or, or_false, and_false, false_and, not_true_eq_false, not_false_eq_true, if_true, if_false, e_Hall_totalKept_0, e_Hall_totalKept_26]
  exact lp 364 0 0 (by omega) (by omega) (by omega) _ ⟨by omega, rfl⟩
theorem q_find (d : Nat) (A s : Mem) (hA : A = win s 37) (hK : KA A) (k : Int) : CV (d + 6) 162 [24, 37, k] s fun _ u => Fmv s u ∧ mvI A u k (90 * A 0 2) ∧ ∀ w, 0 ≤ w ∧ w < A 0 2 → ∃ D, Fpost A w 1000 10000000 D := by
  have hr := hK.2.2.2.2.2.2
  have hcc := hK.1
  unfold VC at hcc
  have g10 : ∀ j, s 47 j = A 10 j := fun j => by rw [hA]; rfl
  apply c_Moves_find
  have qt := q_totalKept (d + 4) isH37 (mcopy (mset s 24 0 0) 47 0 26 0 364) (fun j hj => by
    simp only [Int.reduceAdd]
    rw [mcopy_out (by omega), mset_ne (by omega), g10]; exact hr j hj)
  simp only [Int.reduceAdd] at qt
  have es : sg (mcopy (mset s 24 0 0) 47 0 26 0 364 47) 0 364 = sg (A 10) 0 364 := sg_congr 364 0 (fun j a b => by rw [mcopy_out (by omega), mset_ne (by omega), g10])
  rw [es] at qt
  simp (disch := first | assumption | omega) only [rn, wk, al, wr_e, td_e, tm_e, mset_eq, mset_ne, if_pos, if_neg, Int.reduceAdd, Int.reduceSub, Int.reduceMul, Int.reduceNeg, Int.reduceLT, Int.reduceLE, Int.reduceEq, Int.cast_ofNat_Int, eq_self, and_true, true_and, ite_self, true_or, or_true, false_or, or_false, and_false, false_and, not_true_eq_false, not_false_eq_true, if_true, if_false, e_Moves_find_0, e_Moves_find_84, qt]
  refine lp_find d A s hK k _ (fun u a b c => ⟨a, b, c⟩) (A 0 2).toNat 0 _ (by omega) (by omega) ?_ ?_ ?_ ?_ ?_ (fun w' hw' => by omega)
  · intro c i h
    rw [mset_ne (by omega), mcopy_out (by omega), mset_ne (by omega)]
  · intro k' a b
    rw [hA]; funext i
    show mset (mcopy (mset s 24 0 0) 47 0 26 0 364) 24 4 _ (37 + k') i = s (37 + k') i
    rw [mset_ne (by omega), mcopy_out (by omega), mset_ne (by omega)]
  · intro j hj
    rw [mset_ne (by omega), mcopy_in rfl (by omega), mset_ne (by omega), g10]; congr 1; omega
  · rw [mset_eq rfl rfl]
  · refine ⟨?_, fun j hj => by omega⟩
    rw [mset_ne (by omega), mcopy_out (by omega), mset_eq rfl rfl]; rfl
