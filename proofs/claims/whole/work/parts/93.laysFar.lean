/-! ===== H2: the reference lays its distances ===== -/
theorem lf3 (d : Nat) (k : Int) (s v : Mem) (A : Mem) (hp : A 0 1 ≤ 7) (hk : inP A k) (hI : FlI A (-1) 100 1000000 (fun a b => v 146 (7 * a + b))) (a : Int) (ha : inP A a) (x5 x6 : Int) (Q : Int → Mem → Prop) (hQ : ∀ u z, Fx s 146 u → (∀ i j, inP A i → inP A j → u 146 (7 * i + j) = if i ≤ a then fl (fun a b => v 146 (7 * a + b)) k i j else v 146 (7 * i + j)) → EV (d + 1) o_R_laysFar 239 [] [137, A 0 1, k, a, z, x5, x6] u Q) : ∀ (n : Nat) (b : Int) (u : Mem), 0 ≤ b → b + n = A 0 1 → Fx s 146 u → (∀ i j, inP A i → inP A j → u 146 (7 * i + j) = if i < a ∨ (i = a ∧ j < b) then fl (fun a b => v 146 (7 * a + b)) k i j else v 146 (7 * i + j)) → EV (d + 1) o_R_laysFar 176 [] [137, A 0 1, k, a, b, x5, x6] u Q := by
  intro n
  have hk' := hk
  have ha' := ha
  unfold inP at hk' ha'
  induction n with
  | zero =>
    intro b u h0 hb hf hu
    have hq := hQ u b hf (by
      intro i j hi hj
      rw [hu i j hi hj]
      unfold inP at hj
      by_cases c : i ≤ a
      · rw [if_pos (by omega), if_pos c]
      · rw [if_neg (by omega), if_neg c])
    rw [e_R_laysFar_176]
    simp (disch := first | assumption | omega) only [rn, wk, al, wr_e, td_e, tm_e, mset_eq, mset_ne, if_pos, if_neg, Int.reduceAdd, Int.reduceSub, Int.reduceMul, Int.reduceNeg, Int.reduceLT, Int.reduceLE, Int.reduceEq, Int.cast_ofNat_Int, eq_self, and_true, true_and, ite_self, true_or, or_true, false_or, or_false, and_false, false_and, not_true_eq_false, not_false_eq_true, if_true, if_false]
    exact hq
  | succ n ih =>
    intro b u h0 hb hf hu
    have hbP : inP A b := ⟨h0, by omega⟩
    have i1 : 0 ≤ v 146 (7 * a + k) ∧ v 146 (7 * a + k) ≤ 1000000 := hI.1 a k ha hk
    have i2 : 0 ≤ v 146 (7 * k + b) ∧ v 146 (7 * k + b) ≤ 1000000 := hI.1 k b hk hbP
    have i3 : 0 ≤ v 146 (7 * a + b) ∧ v 146 (7 * a + b) ≤ 1000000 := hI.1 a b ha hbP
    have u1 : u 146 (7 * k + b) = v 146 (7 * k + b) := by
      rw [hu k b hk hbP]; split
      · exact (fl_col hI hk hbP).2
      · rfl
    have u3 : u 146 (7 * a + k) = v 146 (7 * a + k) := by
      rw [hu a k ha hk]; split
      · exact (fl_col hI hk ha).1
      · rfl
    have u2 : u 146 (7 * a + b) = v 146 (7 * a + b) := by
      rw [hu a b ha hbP, if_neg (by omega)]
    rw [e_R_laysFar_176]
    simp (disch := first | assumption | omega) only [rn, wk, al, wr_e, td_e, tm_e, mset_eq, mset_ne, if_pos, if_neg, Int.reduceAdd, Int.reduceSub, Int.reduceMul, Int.reduceNeg, Int.reduceLT, Int.reduceLE, Int.reduceEq, Int.cast_ofNat_Int, eq_self, and_true, true_and, ite_self, true_or, or_true, false_or, or_false, and_false, false_and, not_true_eq_false, not_false_eq_true, if_true, if_false, u1, u2, u3]
    refine ih (b + 1) _ (by omega) (by omega) (Fx_set hf) ?_
    intro i j hi hj
    have hi' := hi
    have hj' := hj
    unfold inP at hi' hj'
    by_cases e : i = a ∧ j = b
    · obtain ⟨rfl, rfl⟩ := e
      rw [mset_eq rfl rfl, if_pos (by omega)]
      rfl
    · rw [mset_ne (by omega), hu i j hi hj]
      by_cases c : i < a ∨ (i = a ∧ j < b)
      · rw [if_pos c, if_pos (by omega)]
      · rw [if_neg c, if_neg (by omega)]
theorem lf2 (d : Nat) (k : Int) (s v : Mem) (A : Mem) (hp : A 0 1 ≤ 7) (hk : inP A k) (hI : FlI A (-1) 100 1000000 (fun a b => v 146 (7 * a + b))) (x5 x6 : Int) (Q : Int → Mem → Prop) (hQ : ∀ u z y, Fx s 146 u → (∀ i j, inP A i → inP A j → u 146 (7 * i + j) = fl (fun a b => v 146 (7 * a + b)) k i j) → EV (d + 1) o_R_laysFar 245 [] [137, A 0 1, k, y, z, x5, x6] u Q) : ∀ (n : Nat) (a : Int) (u : Mem) (z : Int), 0 ≤ a → a + n = A 0 1 → Fx s 146 u → (∀ i j, inP A i → inP A j → u 146 (7 * i + j) = if i < a then fl (fun a b => v 146 (7 * a + b)) k i j else v 146 (7 * i + j)) → EV (d + 1) o_R_laysFar 168 [] [137, A 0 1, k, a, z, x5, x6] u Q := by
  intro n
  have hk' := hk
  unfold inP at hk'
  induction n with
  | zero =>
    intro a u z h0 hb hf hu
    have hq := hQ u z a hf (by
      intro i j hi hj
      rw [hu i j hi hj]
      unfold inP at hi
      rw [if_pos (by omega)])
    rw [e_R_laysFar_168]
    simp (disch := first | assumption | omega) only [rn, wk, al, wr_e, td_e, tm_e, mset_eq, mset_ne, if_pos, if_neg, Int.reduceAdd, Int.reduceSub, Int.reduceMul, Int.reduceNeg, Int.reduceLT, Int.reduceLE, Int.reduceEq, Int.cast_ofNat_Int, eq_self, and_true, true_and, ite_self, true_or, or_true, false_or, or_false, and_false, false_and, not_true_eq_false, not_false_eq_true, if_true, if_false]
    exact hq
  | succ n ih =>
    intro a u z h0 hb hf hu
    have haP : inP A a := ⟨h0, by omega⟩
    rw [e_R_laysFar_168]
    simp (disch := first | assumption | omega) only [rn, wk, al, wr_e, td_e, tm_e, mset_eq, mset_ne, if_pos, if_neg, Int.reduceAdd, Int.reduceSub, Int.reduceMul, Int.reduceNeg, Int.reduceLT, Int.reduceLE, Int.reduceEq, Int.cast_ofNat_Int, eq_self, and_true, true_and, ite_self, true_or, or_true, false_or, or_false, and_false, false_and, not_true_eq_false, not_false_eq_true, if_true, if_false]
    refine lf3 d k s v A hp hk hI a haP x5 x6 Q ?_ (A 0 1).toNat 0 u (by omega) (by omega) hf ?_
    · intro u' z' hf' hu'
      simp (disch := first | assumption | omega) only [rn, wk, al, wr_e, td_e, tm_e, mset_eq, mset_ne, if_pos, if_neg, Int.reduceAdd, Int.reduceSub, Int.reduceMul, Int.reduceNeg, Int.reduceLT, Int.reduceLE, Int.reduceEq, Int.cast_ofNat_Int, eq_self, and_true, true_and, ite_self, true_or, or_true, false_or, or_false, and_false, false_and, not_true_eq_false, not_false_eq_true, if_true, if_false, e_R_laysFar_0, e_R_laysFar_31, e_R_laysFar_34, e_R_laysFar_41, e_R_laysFar_159, e_R_laysFar_239, e_R_laysFar_245, e_R_laysFar_251]
      refine ih (a + 1) u' _ (by omega) (by omega) hf' ?_
      intro i j hi hj
      rw [hu' i j hi hj]
      by_cases c : i ≤ a
      · rw [if_pos c, if_pos (by omega)]
      · rw [if_neg c, if_neg (by omega)]
    · intro i j hi hj
      rw [hu i j hi hj]
      unfold inP at hj
      by_cases c : i < a
      · rw [if_pos c, if_pos (by omega)]
      · rw [if_neg c, if_neg (by omega)]
theorem lf1 (d : Nat) (s : Mem) (A : Mem) (hp : 0 ≤ A 0 1 ∧ A 0 1 ≤ 7) (hw : VW A) (x5 x6 : Int) (Q : Int → Mem → Prop) (hQ : ∀ u, Fx s 146 u → Fpost A (-1) 100 1000000 (fun a b => u 146 (7 * a + b)) → Q 0 u) : ∀ (n : Nat) (k : Int) (u : Mem) (x3 x4 : Int), 0 ≤ k → k + n = A 0 1 → Fx s 146 u → FlI A (-1) 100 1000000 (fun a b => u 146 (7 * a + b)) → Edg A (-1) 100 (A 0 2) (fun a b => u 146 (7 * a + b)) → Tri A k (fun a b => u 146 (7 * a + b)) → EV (d + 1) o_R_laysFar 161 [] [137, A 0 1, k, x3, x4, x5, x6] u Q := by
  intro n
  induction n with
  | zero =>
    intro k u x3 x4 h0 hk hf hI hE hT
    have ek : k = A 0 1 := by omega
    have hq := hQ u hf (fl_post hw hI hE (by rw [← ek]; exact hT))
    rw [e_R_laysFar_161]
    simp (disch := first | assumption | omega) only [rn, wk, al, wr_e, td_e, tm_e, mset_eq, mset_ne, if_pos, if_neg, Int.reduceAdd, Int.reduceSub, Int.reduceMul, Int.reduceNeg, Int.reduceLT, Int.reduceLE, Int.reduceEq, Int.cast_ofNat_Int, eq_self, and_true, true_and, ite_self, true_or, or_true, false_or, or_false, and_false, false_and, not_true_eq_false, not_false_eq_true, if_true, if_false, e_R_laysFar_0, e_R_laysFar_31, e_R_laysFar_34, e_R_laysFar_41, e_R_laysFar_159, e_R_laysFar_239, e_R_laysFar_245, e_R_laysFar_251]
    exact hq
  | succ n ih =>
    intro k u x3 x4 h0 hk hf hI hE hT
    have hkP : inP A k := ⟨h0, by omega⟩
    rw [e_R_laysFar_161]
    simp (disch := first | assumption | omega) only [rn, wk, al, wr_e, td_e, tm_e, mset_eq, mset_ne, if_pos, if_neg, Int.reduceAdd, Int.reduceSub, Int.reduceMul, Int.reduceNeg, Int.reduceLT, Int.reduceLE, Int.reduceEq, Int.cast_ofNat_Int, eq_self, and_true, true_and, ite_self, true_or, or_true, false_or, or_false, and_false, false_and, not_true_eq_false, not_false_eq_true, if_true, if_false]
    refine lf2 d k s u A hp.2 hkP hI x5 x6 Q ?_ (A 0 1).toNat 0 u x4 (by omega) (by omega) hf ?_
    · intro t z y hf' ht
      have f2' : ∀ a b, inP A a → inP A b → (fun a b => t 146 (7 * a + b)) a b = fl (fun a b => u 146 (7 * a + b)) k a b := ht
      simp (disch := first | assumption | omega) only [rn, wk, al, wr_e, td_e, tm_e, mset_eq, mset_ne, if_pos, if_neg, Int.reduceAdd, Int.reduceSub, Int.reduceMul, Int.reduceNeg, Int.reduceLT, Int.reduceLE, Int.reduceEq, Int.cast_ofNat_Int, eq_self, and_true, true_and, ite_self, true_or, or_true, false_or, or_false, and_false, false_and, not_true_eq_false, not_false_eq_true, if_true, if_false, e_R_laysFar_0, e_R_laysFar_31, e_R_laysFar_34, e_R_laysFar_41, e_R_laysFar_159, e_R_laysFar_239, e_R_laysFar_245, e_R_laysFar_251]
      exact ih (k + 1) t _ _ (by omega) (by omega) hf' (FlI_congr f2' (fl_I hI hkP)) (Edg_congr hw (Int.le_refl _) f2' (fl_E hE)) (Tri_congr (by omega) f2' (fl_T hI hkP hT))
    · intro i j hi hj
      unfold inP at hi
      rw [if_neg (by omega)]
theorem lf0 (d : Nat) (s : Mem) (A : Mem) (hp : 0 ≤ A 0 1 ∧ A 0 1 ≤ 7) (h10 : 0 ≤ A 0 2 ∧ A 0 2 ≤ 10) (hw : VW A) (e1 : s 138 1 = A 0 2) (hrw : RW A (s 138)) (Q : Int → Mem → Prop) (hQ : ∀ u, Fx s 146 u → Fpost A (-1) 100 1000000 (fun a b => u 146 (7 * a + b)) → Q 0 u) : ∀ (n : Nat) (w : Int) (u : Mem) (x3 x4 x5 x6 : Int), 0 ≤ w → w + n = A 0 2 → Fx s 146 u → FlI A (-1) 100 1000000 (fun a b => u 146 (7 * a + b)) → Edg A (-1) 100 w (fun a b => u 146 (7 * a + b)) → (∀ a b, inP A a → inP A b → u 146 (7 * a + b) = u 146 (7 * b + a)) → EV (d + 1) o_R_laysFar 43 [] [137, A 0 1, w, x3, x4, x5, x6] u Q := by
  intro n
  induction n with
  | zero =>
    intro w u x3 x4 x5 x6 h0 hk hf hI hE hS
    have ew : w = A 0 2 := by omega
    have g1 : u 138 1 = A 0 2 := by rw [hf _ _ (by omega), e1]
    rw [e_R_laysFar_43]
    simp (disch := first | assumption | omega) only [rn, wk, al, wr_e, td_e, tm_e, mset_eq, mset_ne, if_pos, if_neg, Int.reduceAdd, Int.reduceSub, Int.reduceMul, Int.reduceNeg, Int.reduceLT, Int.reduceLE, Int.reduceEq, Int.cast_ofNat_Int, eq_self, and_true, true_and, ite_self, true_or, or_true, false_or, or_false, and_false, false_and, not_true_eq_false, not_false_eq_true, if_true, if_false, e_R_laysFar_0, e_R_laysFar_31, e_R_laysFar_34, e_R_laysFar_41, e_R_laysFar_159, e_R_laysFar_239, e_R_laysFar_245, e_R_laysFar_251, g1]
    refine lf1 d s A hp hw x5 x6 Q hQ (A 0 1).toNat 0 u x3 x4 (by omega) (by omega) hf hI (by rw [← ew]; exact hE) ?_
    intro c hc; omega
  | succ n ih =>
    intro w u x3 x4 x5 x6 h0 hk hf hI hE hS
    have g1 : u 138 1 = A 0 2 := by rw [hf _ _ (by omega), e1]
    have hv := hw w (by omega)
    have hr := hrw w (by omega)
    have r0 : u 138 (10 + 4 * w) = A 2 (2 * w) := by rw [hf _ _ (by omega), hr.1]
    have r1 : u 138 (10 + 4 * w + 1) = A 2 (2 * w + 1) := by rw [hf _ _ (by omega), ← hr.2.1]; congr 1; omega
    have r2 : u 138 (10 + 4 * w + 2) = A 3 w := by rw [hf _ _ (by omega), ← hr.2.2.1]; congr 1; omega
    have r3 : u 138 (10 + 4 * w + 3) = A 4 w := by rw [hf _ _ (by omega), ← hr.2.2.2]; congr 1; omega
    rw [e_R_laysFar_43]
    simp (disch := first | assumption | omega) only [rn, wk, al, wr_e, td_e, tm_e, mset_eq, mset_ne, if_pos, if_neg, Int.reduceAdd, Int.reduceSub, Int.reduceMul, Int.reduceNeg, Int.reduceLT, Int.reduceLE, Int.reduceEq, Int.cast_ofNat_Int, eq_self, and_true, true_and, ite_self, true_or, or_true, false_or, or_false, and_false, false_and, not_true_eq_false, not_false_eq_true, if_true, if_false, g1, q_wayRow, r0, r1, r2, r3]
    have i1 : 0 ≤ u 146 (7 * A 2 (2 * w) + A 2 (2 * w + 1)) ∧ u 146 (7 * A 2 (2 * w) + A 2 (2 * w + 1)) ≤ 1000000 := hI.1 _ _ hv.1 hv.2.1
    have sy := hS _ _ hv.1 hv.2.1
    have hD : ∀ a b, inP A a → inP A b → (fun a b => (mset (mset u 146 (7 * A 2 (2 * w) + A 2 (2 * w + 1)) (min (u 146 (7 * A 2 (2 * w) + A 2 (2 * w + 1))) (100 * A 3 w + A 4 w))) 146 (7 * A 2 (2 * w + 1) + A 2 (2 * w)) (min (u 146 (7 * A 2 (2 * w) + A 2 (2 * w + 1))) (100 * A 3 w + A 4 w))) 146 (7 * a + b)) a b = sho (fun a b => u 146 (7 * a + b)) (A 2 (2 * w)) (A 2 (2 * w + 1)) (100 * A 3 w + A 4 w) a b := by
      intro a b ha hb
      unfold inP at ha hb
      simp only [sho]
      by_cases e1 : a = A 2 (2 * w) ∧ b = A 2 (2 * w + 1)
      · rw [mset_ne (by omega), mset_eq rfl (by omega), if_pos (Or.inl e1), e1.1, e1.2]
      · by_cases e2 : a = A 2 (2 * w + 1) ∧ b = A 2 (2 * w)
        · rw [mset_eq rfl (by omega), if_pos (Or.inr e2), e2.1, e2.2, sy]
        · rw [mset_ne (by omega), mset_ne (by omega), if_neg (by omega)]
    refine ih (w + 1) _ _ _ _ _ (by omega) (by omega) (Fx_set (Fx_set hf)) (FlI_congr hD (sho_I hw (by omega) hI (by omega))) (Edg_congr hw (by omega) hD (sho_E hE)) ?_
    intro a b ha hb
    have q1 := hD a b ha hb
    have q2 := hD b a hb ha
    have q3 := hS a b ha hb
    simp only [sho] at q1 q2
    rw [q1, q2, q3]
    by_cases c : (a = A 2 (2 * w) ∧ b = A 2 (2 * w + 1)) ∨ (a = A 2 (2 * w + 1) ∧ b = A 2 (2 * w))
    · rw [if_pos c, if_pos (by omega)]
    · rw [if_neg c, if_neg (by omega)]
theorem lfd (d : Nat) (s : Mem) (P x4 x5 x6 : Int) (Q : Int → Mem → Prop) (hQ : ∀ u z, Fx s 146 u → (∀ i, 0 ≤ i ∧ i < 49 → u 146 i = if i % 8 = 0 then 0 else 1000000) → EV (d + 1) o_R_laysFar 41 [] [137, P, z, 0, x4, x5, x6] u Q) : ∀ (n : Nat) (k : Int) (u : Mem), 0 ≤ k → k + n = 49 → Fx s 146 u → (∀ i, 0 ≤ i ∧ i < k → u 146 i = if i % 8 = 0 then 0 else 1000000) → EV (d + 1) o_R_laysFar 9 [] [137, P, k, 0, x4, x5, x6] u Q := by
  intro n
  induction n with
  | zero =>
    intro k u h0 hk hf hu
    have ek : k = 49 := by omega
    subst ek
    rw [e_R_laysFar_9]
    simp (disch := first | assumption | omega) only [rn, wk, al, wr_e, td_e, tm_e, mset_eq, mset_ne, if_pos, if_neg, Int.reduceAdd, Int.reduceSub, Int.reduceMul, Int.reduceNeg, Int.reduceLT, Int.reduceLE, Int.reduceEq, Int.cast_ofNat_Int, eq_self, and_true, true_and, ite_self, true_or, or_true, false_or, or_false, and_false, false_and, not_true_eq_false, not_false_eq_true, if_true, if_false]
    exact hQ u 49 hf hu
  | succ n ih =>
    intro k u h0 hk hf hu
    rw [e_R_laysFar_9]
    by_cases c : k % 8 = 0
    · simp (disch := first | assumption | omega) only [rn, wk, al, wr_e, td_e, tm_e, mset_eq, mset_ne, if_pos, if_neg, Int.reduceAdd, Int.reduceSub, Int.reduceMul, Int.reduceNeg, Int.reduceLT, Int.reduceLE, Int.reduceEq, Int.cast_ofNat_Int, eq_self, and_true, true_and, ite_self, true_or, or_true, false_or, or_false, and_false, false_and, not_true_eq_false, not_false_eq_true, if_true, if_false, e_R_laysFar_0, e_R_laysFar_31, e_R_laysFar_34, e_R_laysFar_41, e_R_laysFar_159, e_R_laysFar_239, e_R_laysFar_245, e_R_laysFar_251]
      refine ih (k + 1) _ (by omega) (by omega) (Fx_set hf) ?_
      intro i hi
      by_cases e : i = k
      · subst e; rw [mset_eq rfl rfl, if_pos c]
      · rw [mset_ne (by omega)]; exact hu i (by omega)
    · simp (disch := first | assumption | omega) only [rn, wk, al, wr_e, td_e, tm_e, mset_eq, mset_ne, if_pos, if_neg, Int.reduceAdd, Int.reduceSub, Int.reduceMul, Int.reduceNeg, Int.reduceLT, Int.reduceLE, Int.reduceEq, Int.cast_ofNat_Int, eq_self, and_true, true_and, ite_self, true_or, or_true, false_or, or_false, and_false, false_and, not_true_eq_false, not_false_eq_true, if_true, if_false, e_R_laysFar_0, e_R_laysFar_31, e_R_laysFar_34, e_R_laysFar_41, e_R_laysFar_159, e_R_laysFar_239, e_R_laysFar_245, e_R_laysFar_251]
      refine ih (k + 1) _ (by omega) (by omega) (Fx_set hf) ?_
      intro i hi
      by_cases e : i = k
      · subst e; rw [mset_eq rfl rfl, if_neg c]
      · rw [mset_ne (by omega)]; exact hu i (by omega)
theorem q_laysFar (d : Nat) (A s : Mem) (hc : VC A) (hw : VW A) (hrc : RC A (s 138)) (hrw : RW A (s 138)) : CV (d + 2) 282 [137] s fun _ u => Fx s 146 u ∧ Fpost A (-1) 100 1000000 (fun a b => u 146 (7 * a + b)) := by
  obtain ⟨-, hp, h10, -⟩ := hc
  have r0 := hrc.1
  have r1 := hrc.2.1
  apply c_R_laysFar
  simp (disch := first | assumption | omega) only [rn, wk, al, wr_e, td_e, tm_e, mset_eq, mset_ne, if_pos, if_neg, Int.reduceAdd, Int.reduceSub, Int.reduceMul, Int.reduceNeg, Int.reduceLT, Int.reduceLE, Int.reduceEq, Int.cast_ofNat_Int, eq_self, and_true, true_and, ite_self, true_or, or_true, false_or, or_false, and_false, false_and, not_true_eq_false, not_false_eq_true, if_true, if_false, e_R_laysFar_0, e_R_laysFar_31, e_R_laysFar_34, e_R_laysFar_41, e_R_laysFar_159, e_R_laysFar_239, e_R_laysFar_245, e_R_laysFar_251, r0]
  refine lfd d s (A 0 1) 0 0 0 _ ?_ 49 0 s (by omega) (by omega) (fun _ _ _ => rfl) (fun i hi => by omega)
  intro u z hf hu
  have hu' : ∀ a b, inP A a → inP A b → u 146 (7 * a + b) = if a = b then 0 else 1000000 := by
    intro a b ha hb
    unfold inP at ha hb
    rw [hu (7 * a + b) (by omega)]
    by_cases c : a = b
    · rw [if_pos (by omega), if_pos c]
    · rw [if_neg (by omega), if_neg c]
  simp (disch := first | assumption | omega) only [rn, wk, al, wr_e, td_e, tm_e, mset_eq, mset_ne, if_pos, if_neg, Int.reduceAdd, Int.reduceSub, Int.reduceMul, Int.reduceNeg, Int.reduceLT, Int.reduceLE, Int.reduceEq, Int.cast_ofNat_Int, eq_self, and_true, true_and, ite_self, true_or, or_true, false_or, or_false, and_false, false_and, not_true_eq_false, not_false_eq_true, if_true, if_false, e_R_laysFar_0, e_R_laysFar_31, e_R_laysFar_34, e_R_laysFar_41, e_R_laysFar_159, e_R_laysFar_239, e_R_laysFar_245, e_R_laysFar_251]
  refine lf0 d s A hp h10 hw r1 hrw _ (fun u h1 h2 => ⟨h1, h2⟩) (A 0 2).toNat 0 u _ _ _ _ (by omega) (by omega) hf ?_ ?_ ?_
  · refine ⟨?_, ?_, ?_⟩
    · intro a b ha hb
      show 0 ≤ u 146 (7 * a + b) ∧ u 146 (7 * a + b) ≤ _
      rw [hu' a b ha hb]; split <;> omega
    · intro a ha
      show u 146 (7 * a + a) = 0
      rw [hu' a a ha ha, if_pos rfl]
    · intro a b ha hb hlt
      have hlt : u 146 (7 * a + b) < 1000000 := hlt
      show ∃ n x y, _ ∧ u 146 (7 * a + b) = 100 * x + y
      rw [hu' a b ha hb] at hlt ⊢
      by_cases c : a = b
      · rw [if_pos c]; exact ⟨0, 0, 0, ⟨c, rfl, rfl⟩, by omega⟩
      · rw [if_neg c] at hlt; omega
  · intro w hw'; omega
  · intro a b ha hb
    rw [hu' a b ha hb, hu' b a hb ha]
    by_cases c : a = b
    · rw [if_pos c, if_pos c.symm]
    · rw [if_neg c, if_neg (fun h => c h.symm)]
/-- the class's table and the reference's tell the same -/
def NF (A : Mem) (f : Int → Int) : Prop := ∀ a b, 0 ≤ a ∧ a < A 0 1 → 0 ≤ b ∧ b < A 0 1 → (A 11 (7 * a + b) = 10000000 ∧ f (7 * a + b) = 1000000) ∨ ∃ x y, A 11 (7 * a + b) = 1000 * x + y ∧ f (7 * a + b) = 100 * x + y ∧ (0 ≤ x ∧ x ≤ 54) ∧ (0 ≤ y ∧ y ≤ 54)
theorem nf_of {A : Mem} {f : Int → Int} (hc : VC A) (hw : VW A) (hn : VN A) (h : Fpost A (-1) 100 1000000 (fun a b => f (7 * a + b))) : NF A f := by
  intro a b ha hb
  have hp := hc.2.1.2
  rcases hn a b ha hb with ⟨h1, h2⟩ | ⟨x, y, h1, h2, h3, h4⟩
  · rcases fpost_dst hw hp (Or.inl rfl) (by omega) h ha hb with ⟨q1, q2⟩ | ⟨x', y', q1, q2, q3, q4⟩
    · exact Or.inl ⟨h1, q1⟩
    · obtain ⟨n, q1⟩ := q1.1
      exact absurd ((wk_wkw A n a b x' y').mpr q1) (h2 n x' y')
  · rcases fpost_dst hw hp (Or.inl rfl) (by omega) h ha hb with ⟨q1, q2⟩ | ⟨x', y', q1, q2, q3, q4⟩
    · obtain ⟨n, h1⟩ := h1.1
      exact absurd ((wk_wkw A n a b x y).mp h1) (q2 n x y)
    · obtain ⟨rfl, rfl⟩ := dsw_uniq (dst_dsw.mp h1) q1
      exact Or.inr ⟨x, y, h2, q2, h3, h4⟩
theorem vn_of {A : Mem} (hc : VC A) (hw : VW A) (h : Fpost A (-1) 1000 10000000 (fun a b => A 11 (7 * a + b))) : VN A := by
  intro a b ha hb
  have hp := hc.2.1.2
  rcases fpost_dst hw hp (Or.inr rfl) (by omega) h ha hb with ⟨q1, q2⟩ | ⟨x, y, q1, q2, q3, q4⟩
  · exact Or.inl ⟨q1, fun n x y h => q2 n x y ((wk_wkw A n a b x y).mp h)⟩
  · exact Or.inr ⟨x, y, dst_dsw.mpr q1, q2, q3, q4⟩
