/-! ===== H2: the class measures its distances ===== -/
def fil (s : Mem) (a n v : Int) : Mem := fun b => if b = a then (fun j => if 0 ≤ j ∧ j < n then v else s a j) else s b
theorem fil_in {s : Mem} {a n v b j : Int} (h1 : b = a) (h2 : 0 ≤ j ∧ j < n) : fil s a n v b j = v := by unfold fil; rw [if_pos h1, if_pos h2]
theorem fil_out {s : Mem} {a n v b j : Int} (h : ¬ (b = a ∧ 0 ≤ j ∧ j < n)) : fil s a n v b j = s b j := by
  unfold fil
  by_cases h1 : b = a
  · rw [if_pos h1, if_neg (fun h2 => h ⟨h1, h2⟩), h1]
  · rw [if_neg h1]
theorem fil_nil {s : Mem} {a v : Int} : fil s a 0 v = s := by
  funext b j
  exact fil_out (by omega)
theorem fil_step {s : Mem} {a n v : Int} (h : 0 ≤ n) : mset (fil s a n v) a n v = fil s a (n + 1) v := by
  funext b j
  by_cases e : b = a
  · subst e
    by_cases e2 : j = n
    · subst e2; rw [mset_eq rfl rfl, fil_in rfl (by omega)]
    · rw [mset_ne (by omega)]
      by_cases e3 : 0 ≤ j ∧ j < n
      · rw [fil_in rfl e3, fil_in rfl (by omega)]
      · rw [fil_out (by omega), fil_out (by omega)]
  · rw [mset_ne (by omega), fil_out (by omega), fil_out (by omega)]
theorem lp_fill (d : Nat) (X v : Int) (s : Mem) (hX : alen X ≤ 1000) (Q : Int → Mem → Prop) (hQ : Q 0 (fil s X (alen X) v)) : ∀ (n : Nat) (k : Int), 0 ≤ k → k + n = alen X → EV d o_Arrays_fill 5 [] [X, v, k, alen X] (fil s X k v) Q := by
  intro n
  induction n with
  | zero =>
    intro k h0 hk
    have e : k = alen X := by omega
    rw [e_Arrays_fill_5]
    simp (disch := first | assumption | omega) only [rn, wk, al, wr_e, td_e, tm_e, mset_eq, mset_ne, if_pos, if_neg, Int.reduceAdd, Int.reduceSub, Int.reduceMul, Int.reduceNeg, Int.reduceLT, Int.reduceLE, Int.reduceEq, Int.cast_ofNat_Int, eq_self, and_true, true_and, ite_self, true_or, or_true, false_or, or_false, and_false, false_and, not_true_eq_false, not_false_eq_true, if_true, if_false, e_Arrays_fill_0, e_Arrays_fill_20]
    rw [e]; exact hQ
  | succ n ih =>
    intro k h0 hk
    rw [e_Arrays_fill_5]
    simp (disch := first | assumption | omega) only [rn, wk, al, wr_e, td_e, tm_e, mset_eq, mset_ne, if_pos, if_neg, Int.reduceAdd, Int.reduceSub, Int.reduceMul, Int.reduceNeg, Int.reduceLT, Int.reduceLE, Int.reduceEq, Int.cast_ofNat_Int, eq_self, and_true, true_and, ite_self, true_or, or_true, false_or, or_false, and_false, false_and, not_true_eq_false, not_false_eq_true, if_true, if_false, fil_step]
    exact ih (k + 1) (by omega) (by omega)
theorem q_fill (d : Nat) (X v : Int) (s : Mem) (hX : 0 ≤ alen X ∧ alen X ≤ 1000) : sem (d + 1) 31 [X, v] s = some (0, fil s X (alen X) v) := by
  apply CV_eq; apply c_Arrays_fill
  simp only [e_Arrays_fill_0, rn, wk]
  have h := lp_fill d X v s hX.2 (fun a b => a = 0 ∧ b = fil s X (alen X) v) ⟨rfl, rfl⟩ (alen X).toNat 0 (by omega) (by omega)
  rw [fil_nil] at h
  exact h
theorem q_shorten (d : Nat) (X a b w : Int) (s : Mem) (hX : alen X = 49) (ha : 0 ≤ a ∧ a < 7) (hb : 0 ≤ b ∧ b < 7) : sem (d + 1) 32 [X, a, b, w] s = some (0, mset s X (7 * a + b) (min (s X (7 * a + b)) w)) := by
  apply CV_eq; apply c_Hall_shorten
  have e : a * 7 = 7 * a := by omega
  by_cases c : w < s X (7 * a + b)
  · have e2 : min (s X (7 * a + b)) w = w := by omega
    simp (disch := first | assumption | omega) only [rn, wk, al, wr_e, td_e, tm_e, mset_eq, mset_ne, if_pos, if_neg, Int.reduceAdd, Int.reduceSub, Int.reduceMul, Int.reduceNeg, Int.reduceLT, Int.reduceLE, Int.reduceEq, Int.cast_ofNat_Int, eq_self, and_true, true_and, ite_self, true_or, or_true, false_or, or_false, and_false, false_and, not_true_eq_false, not_false_eq_true, if_true, if_false, e_Hall_shorten_0, e_Hall_shorten_21, e, hX, e2]
  · have e2 : min (s X (7 * a + b)) w = s X (7 * a + b) := by omega
    simp (disch := first | assumption | omega) only [rn, wk, al, wr_e, td_e, tm_e, mset_eq, mset_ne, if_pos, if_neg, Int.reduceAdd, Int.reduceSub, Int.reduceMul, Int.reduceNeg, Int.reduceLT, Int.reduceLE, Int.reduceEq, Int.cast_ofNat_Int, eq_self, and_true, true_and, ite_self, true_or, or_true, false_or, or_false, and_false, false_and, not_true_eq_false, not_false_eq_true, if_true, if_false, e_Hall_shorten_0, e_Hall_shorten_21, e, hX, e2]
    exact (mset_id rfl).symm
/-- all but the cell X is as it was -/
def Fx (s : Mem) (X : Int) (u : Mem) : Prop := ∀ c i, c ≠ X → u c i = s c i
theorem Fx_set {s u : Mem} {X i v : Int} (h : Fx s X u) : Fx s X (mset u X i v) := by
  intro c j hc
  rw [mset_ne (by omega)]; exact h c j hc
/-- the class's measureBy, inner loop; v: the memory as the middle k begins -/
theorem lp_mb2 (d : Nat) (h X k : Int) (s v : Mem) (hX : alen X = 49) (hhX : h ≠ X) (A : Mem) (wo F : Int) (hF : F = 10000000) (hp : A 0 1 ≤ 7) (hs : s h 1 = A 0 1) (hk : inP A k) (hI : FlI A wo 1000 F (fun a b => v X (7 * a + b))) (a : Int) (ha : inP A a) (g : Int) (hg : g = v X (7 * a + k)) (Q : Int → Mem → Prop) (hQ : ∀ u z, Fx s X u → (∀ i j, inP A i → inP A j → u X (7 * i + j) = if i ≤ a then fl (fun a b => v X (7 * a + b)) k i j else v X (7 * i + j)) → EV (d + 1) o_Hall_measureBy 64 [] [h, k, X, a, g, z] u Q) : ∀ (n : Nat) (b : Int) (u : Mem), 0 ≤ b → b + n = A 0 1 → Fx s X u → (∀ i j, inP A i → inP A j → u X (7 * i + j) = if i < a ∨ (i = a ∧ j < b) then fl (fun a b => v X (7 * a + b)) k i j else v X (7 * i + j)) → EV (d + 1) o_Hall_measureBy 23 [] [h, k, X, a, g, b] u Q := by
  intro n
  have hk' := hk
  have ha' := ha
  unfold inP at hk' ha'
  induction n with
  | zero =>
    intro b u h0 hb hf hu
    have hq := hQ u b hf (by
      intro i j hi hj
      rw [hu i j hi hj]
      unfold inP at hj
      by_cases c : i ≤ a
      · rw [if_pos (by omega), if_pos c]
      · rw [if_neg (by omega), if_neg c])
    have e1 : u h 1 = A 0 1 := by rw [hf h 1 hhX, hs]
    rw [e_Hall_measureBy_23]
    simp (disch := first | assumption | omega) only [rn, wk, al, wr_e, td_e, tm_e, mset_eq, mset_ne, if_pos, if_neg, Int.reduceAdd, Int.reduceSub, Int.reduceMul, Int.reduceNeg, Int.reduceLT, Int.reduceLE, Int.reduceEq, Int.cast_ofNat_Int, eq_self, and_true, true_and, ite_self, true_or, or_true, false_or, or_false, and_false, false_and, not_true_eq_false, not_false_eq_true, if_true, if_false, e1]
    first | exact hq | (split <;> exact hq)
  | succ n ih =>
    intro b u h0 hb hf hu
    have hbP : inP A b := ⟨h0, by omega⟩
    have e1 : u h 1 = A 0 1 := by rw [hf h 1 hhX, hs]
    have i1 : 0 ≤ v X (7 * a + k) ∧ v X (7 * a + k) ≤ F := hI.1 a k ha hk
    have i2 : 0 ≤ v X (7 * k + b) ∧ v X (7 * k + b) ≤ F := hI.1 k b hk hbP
    have i3 : 0 ≤ v X (7 * a + b) ∧ v X (7 * a + b) ≤ F := hI.1 a b ha hbP
    have c1 := (fl_col hI hk hbP).2
    rw [e_Hall_measureBy_23]
    by_cases cF : F ≤ g
    · have hq := hQ u b hf (by
        intro i j hi hj
        have i4 : 0 ≤ v X (7 * k + j) ∧ v X (7 * k + j) ≤ F := hI.1 k j hk hj
        have i5 : 0 ≤ v X (7 * a + j) ∧ v X (7 * a + j) ≤ F := hI.1 a j ha hj
        rw [hu i j hi hj]
        by_cases c : i < a
        · rw [if_pos (by omega), if_pos (by omega)]
        · by_cases e : i = a
          · subst e
            rw [if_pos (show i ≤ i by omega)]
            have : fl (fun a b => v X (7 * a + b)) k i j = v X (7 * i + j) := by simp only [fl]; omega
            rw [this]; split <;> rfl
          · rw [if_neg (by omega), if_neg (by omega)])
      simp (disch := first | assumption | omega) only [rn, wk, al, wr_e, td_e, tm_e, mset_eq, mset_ne, if_pos, if_neg, Int.reduceAdd, Int.reduceSub, Int.reduceMul, Int.reduceNeg, Int.reduceLT, Int.reduceLE, Int.reduceEq, Int.cast_ofNat_Int, eq_self, and_true, true_and, ite_self, true_or, or_true, false_or, or_false, and_false, false_and, not_true_eq_false, not_false_eq_true, if_true, if_false]
      exact hq
    · have u1 : u X (7 * k + b) = v X (7 * k + b) := by
        rw [hu k b hk hbP]; split
        · exact c1
        · rfl
      have u2 : u X (7 * a + b) = v X (7 * a + b) := by
        rw [hu a b ha hbP, if_neg (by omega)]
      have e7 : k * 7 + b = 7 * k + b := by omega
      simp (disch := first | assumption | omega) only [rn, wk, al, wr_e, td_e, tm_e, mset_eq, mset_ne, if_pos, if_neg, Int.reduceAdd, Int.reduceSub, Int.reduceMul, Int.reduceNeg, Int.reduceLT, Int.reduceLE, Int.reduceEq, Int.cast_ofNat_Int, eq_self, and_true, true_and, ite_self, true_or, or_true, false_or, or_false, and_false, false_and, not_true_eq_false, not_false_eq_true, if_true, if_false, e1, hX, e7, u1, u2, q_shorten _ X a b]
      refine ih (b + 1) _ (by omega) (by omega) (Fx_set hf) ?_
      intro i j hi hj
      have hi' := hi
      have hj' := hj
      unfold inP at hi' hj'
      by_cases e : i = a ∧ j = b
      · obtain ⟨rfl, rfl⟩ := e
        rw [mset_eq rfl rfl, if_pos (by omega), hg]
        rfl
      · rw [mset_ne (by omega), hu i j hi hj]
        by_cases c : i < a ∨ (i = a ∧ j < b)
        · rw [if_pos c, if_pos (by omega)]
        · rw [if_neg c, if_neg (by omega)]
theorem lp_mb1 (d : Nat) (h X k : Int) (s v : Mem) (hX : alen X = 49) (hhX : h ≠ X) (A : Mem) (wo F : Int) (hF : F = 10000000) (hp : A 0 1 ≤ 7) (hs : s h 1 = A 0 1) (hk : inP A k) (hI : FlI A wo 1000 F (fun a b => v X (7 * a + b))) (Q : Int → Mem → Prop) (hQ : ∀ u, Fx s X u → (∀ i j, inP A i → inP A j → u X (7 * i + j) = fl (fun a b => v X (7 * a + b)) k i j) → Q 0 u) : ∀ (n : Nat) (a : Int) (u : Mem) (g z : Int), 0 ≤ a → a + n = A 0 1 → Fx s X u → (∀ i j, inP A i → inP A j → u X (7 * i + j) = if i < a then fl (fun a b => v X (7 * a + b)) k i j else v X (7 * i + j)) → EV (d + 1) o_Hall_measureBy 2 [] [h, k, X, a, g, z] u Q := by
  intro n
  have hk' := hk
  unfold inP at hk'
  induction n with
  | zero =>
    intro a u g z h0 hb hf hu
    have e1 : u h 1 = A 0 1 := by rw [hf h 1 hhX, hs]
    rw [e_Hall_measureBy_2]
    simp (disch := first | assumption | omega) only [rn, wk, al, wr_e, td_e, tm_e, mset_eq, mset_ne, if_pos, if_neg, Int.reduceAdd, Int.reduceSub, Int.reduceMul, Int.reduceNeg, Int.reduceLT, Int.reduceLE, Int.reduceEq, Int.cast_ofNat_Int, eq_self, and_true, true_and, ite_self, true_or, or_true, false_or, or_false, and_false, false_and, not_true_eq_false, not_false_eq_true, if_true, if_false, e_Hall_measureBy_0, e_Hall_measureBy_64, e_Hall_measureBy_70, e1]
    refine hQ u hf ?_
    intro i j hi hj
    rw [hu i j hi hj]
    unfold inP at hi
    rw [if_pos (by omega)]
  | succ n ih =>
    intro a u g z h0 hb hf hu
    have e1 : u h 1 = A 0 1 := by rw [hf h 1 hhX, hs]
    have haP : inP A a := ⟨h0, by omega⟩
    have u1 : u X (7 * a + k) = v X (7 * a + k) := by
      rw [hu a k haP hk, if_neg (by omega)]
    have e7 : a * 7 + k = 7 * a + k := by omega
    rw [e_Hall_measureBy_2]
    simp (disch := first | assumption | omega) only [rn, wk, al, wr_e, td_e, tm_e, mset_eq, mset_ne, if_pos, if_neg, Int.reduceAdd, Int.reduceSub, Int.reduceMul, Int.reduceNeg, Int.reduceLT, Int.reduceLE, Int.reduceEq, Int.cast_ofNat_Int, eq_self, and_true, true_and, ite_self, true_or, or_true, false_or, or_false, and_false, false_and, not_true_eq_false, not_false_eq_true, if_true, if_false, e1, hX, e7, u1]
    refine lp_mb2 d h X k s v hX hhX A wo F hF hp hs hk hI a haP _ rfl Q ?_ (A 0 1).toNat 0 u (by omega) (by omega) hf ?_
    · intro u' z' hf' hu'
      simp (disch := first | assumption | omega) only [rn, wk, al, wr_e, td_e, tm_e, mset_eq, mset_ne, if_pos, if_neg, Int.reduceAdd, Int.reduceSub, Int.reduceMul, Int.reduceNeg, Int.reduceLT, Int.reduceLE, Int.reduceEq, Int.cast_ofNat_Int, eq_self, and_true, true_and, ite_self, true_or, or_true, false_or, or_false, and_false, false_and, not_true_eq_false, not_false_eq_true, if_true, if_false, e_Hall_measureBy_0, e_Hall_measureBy_64, e_Hall_measureBy_70]
      refine ih (a + 1) u' _ _ (by omega) (by omega) hf' ?_
      intro i j hi hj
      rw [hu' i j hi hj]
      by_cases c : i ≤ a
      · rw [if_pos c, if_pos (by omega)]
      · rw [if_neg c, if_neg (by omega)]
    · intro i j hi hj
      rw [hu i j hi hj]
      unfold inP at hj
      by_cases c : i < a
      · rw [if_pos c, if_pos (by omega)]
      · rw [if_neg c, if_neg (by omega)]
theorem q_measureBy (d : Nat) (h X k : Int) (v : Mem) (hX : alen X = 49) (hhX : h ≠ X) (A : Mem) (wo F : Int) (hF : F = 10000000) (hp : A 0 1 ≤ 7) (hs : v h 1 = A 0 1) (hk : inP A k) (hI : FlI A wo 1000 F (fun a b => v X (7 * a + b))) : CV (d + 2) 33 [h, k, X] v fun _ u => Fx v X u ∧ ∀ i j, inP A i → inP A j → u X (7 * i + j) = fl (fun a b => v X (7 * a + b)) k i j := by
  apply c_Hall_measureBy
  simp (disch := first | assumption | omega) only [rn, wk, al, wr_e, td_e, tm_e, mset_eq, mset_ne, if_pos, if_neg, Int.reduceAdd, Int.reduceSub, Int.reduceMul, Int.reduceNeg, Int.reduceLT, Int.reduceLE, Int.reduceEq, Int.cast_ofNat_Int, eq_self, and_true, true_and, ite_self, true_or, or_true, false_or, or_false, and_false, false_and, not_true_eq_false, not_false_eq_true, if_true, if_false, e_Hall_measureBy_0, e_Hall_measureBy_64, e_Hall_measureBy_70]
  have hk' := hk
  unfold inP at hk'
  refine lp_mb1 d h X k v v hX hhX A wo F hF hp hs hk hI _ (fun u h1 h2 => ⟨h1, h2⟩) (A 0 1).toNat 0 v 0 0 (by omega) (by omega) (fun c i _ => rfl) ?_
  intro i j hi hj
  unfold inP at hi
  rw [if_neg (by omega)]
