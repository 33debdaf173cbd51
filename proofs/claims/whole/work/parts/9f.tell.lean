/-! ===== H2: fractions ===== -/
def eu : Nat → Int → Int → Int
  | 0, a, _ => a
  | n + 1, a, b => if b = 0 then a else eu n b (a % b)
def fin_ : Nat → Int → Int → Prop
  | 0, _, b => b = 0
  | n + 1, a, b => b = 0 ∨ fin_ n b (a % b)
theorem fin_lt : ∀ (n : Nat) (a b : Int), 0 ≤ a → 0 ≤ b → b < 2 ^ n → fin_ (2 * n + 1) a b := by
  intro n
  induction n with
  | zero => intro a b ha hb h; exact Or.inl (by simp at h; omega)
  | succ n ih =>
    intro a b ha hb h
    rw [show 2 * (n + 1) + 1 = (2 * n + 1) + 1 + 1 by omega]
    by_cases c : b = 0
    · exact Or.inl c
    · refine Or.inr ?_
      have h1 : 0 ≤ a % b := Int.emod_nonneg a c
      have h2 : a % b < b := Int.emod_lt_of_pos a (by omega)
      by_cases c2 : a % b = 0
      · exact Or.inl c2
      · refine Or.inr ?_
        have h3 : 0 ≤ b % (a % b) := Int.emod_nonneg b c2
        have h4 : b % (a % b) < a % b := Int.emod_lt_of_pos b (by omega)
        have h5 : b % (a % b) + a % b ≤ b := by
          have e := Int.mul_ediv_add_emod b (a % b)
          have hq : 1 ≤ b / (a % b) := Int.le_ediv_of_mul_le (by omega) (by omega)
          have : a % b * 1 ≤ a % b * (b / (a % b)) := Int.mul_le_mul_of_nonneg_left hq h1
          omega
        refine ih _ _ h1 h3 ?_
        have e2 : (2 : Int) ^ (n + 1) = 2 ^ n * 2 := Int.pow_succ 2 n
        omega
theorem fin_mono : ∀ (n m : Nat) (a b : Int), n ≤ m → fin_ n a b → fin_ m a b := by
  intro n
  induction n with
  | zero =>
    intro m a b h hf
    cases m with
    | zero => exact hf
    | succ m => exact Or.inl hf
  | succ n ih =>
    intro m a b h hf
    obtain ⟨m, rfl⟩ : ∃ k, m = k + 1 := ⟨m - 1, by omega⟩
    rcases hf with q | q
    · exact Or.inl q
    · exact Or.inr (ih m _ _ (by omega) q)
theorem eu_pos : ∀ (n : Nat) (a b : Int), 0 ≤ a → 0 ≤ b → 0 < a ∨ 0 < b → fin_ n a b → 0 < eu n a b := by
  intro n
  induction n with
  | zero => intro a b ha hb h hf; have : b = 0 := hf; show 0 < a; omega
  | succ n ih =>
    intro a b ha hb h hf
    unfold eu
    by_cases c : b = 0
    · rw [if_pos c]; omega
    · rw [if_neg c]
      rcases hf with q | q
      · exact absurd q c
      · exact ih b (a % b) hb (Int.emod_nonneg a c) (by omega) q
theorem lcmp_le (x y : Int) : (lcmp_ x y ≤ 0) = (x ≤ y) := by apply propext; unfold lcmp_; (repeat' split) <;> omega
theorem lcmp_eq (x y : Int) : (lcmp_ x y = 0) = (x = y) := by apply propext; unfold lcmp_; (repeat' split) <;> omega
theorem lp_cd (d : Nat) (s : Mem) (x0 x2 : Int) (Q : Int → Mem → Prop) : ∀ (n : Nat) (k a b z : Int), 0 ≤ k → k + n = 200 → (0 ≤ a ∧ a < 1000000000000) → (0 ≤ b ∧ b < 1000000000000) → fin_ n a b → Q (eu n a b) s → EV d o_M_commonDivisor 9 [] [x0, 0, x2, 0, a, 0, b, 0, k, z, 0] s Q := by
  intro n
  induction n with
  | zero =>
    intro k a b z h0 hk ha hb hf hq
    rw [e_M_commonDivisor_9]
    simp (disch := first | assumption | omega) only [rn, wk, al, wr_e, td_e, tm_e, mset_eq, mset_ne, if_pos, if_neg, Int.reduceAdd, Int.reduceSub, Int.reduceMul, Int.reduceNeg, Int.reduceLT, Int.reduceLE, Int.reduceEq, Int.cast_ofNat_Int, eq_self, and_true, true_and, ite_self, true_or, or_true, false_or, or_false, and_false, false_and, not_true_eq_false, not_false_eq_true, if_true, if_false, e_M_commonDivisor_0, e_M_commonDivisor_45]
    exact hq
  | succ n ih =>
    intro k a b z h0 hk ha hb hf hq
    unfold eu at hq
    rw [e_M_commonDivisor_9]
    by_cases c : b = 0
    · rw [if_pos c] at hq
      simp (disch := first | assumption | omega) only [rn, wk, al, wr_e, td_e, tm_e, mset_eq, mset_ne, if_pos, if_neg, Int.reduceAdd, Int.reduceSub, Int.reduceMul, Int.reduceNeg, Int.reduceLT, Int.reduceLE, Int.reduceEq, Int.cast_ofNat_Int, eq_self, and_true, true_and, ite_self, true_or, or_true, false_or, or_false, and_false, false_and, not_true_eq_false, not_false_eq_true, if_true, if_false, e_M_commonDivisor_0, e_M_commonDivisor_45, lcmp_le]
      exact hq
    · rw [if_neg c] at hq
      have h1 : 0 ≤ a % b := Int.emod_nonneg a c
      have h2 : a % b < b := Int.emod_lt_of_pos a (by omega)
      simp (disch := first | assumption | omega) only [rn, wk, al, wr_e, td_e, tm_e, mset_eq, mset_ne, if_pos, if_neg, Int.reduceAdd, Int.reduceSub, Int.reduceMul, Int.reduceNeg, Int.reduceLT, Int.reduceLE, Int.reduceEq, Int.cast_ofNat_Int, eq_self, and_true, true_and, ite_self, true_or, or_true, false_or, or_false, and_false, false_and, not_true_eq_false, not_false_eq_true, if_true, if_false, e_M_commonDivisor_0, e_M_commonDivisor_45, lcmp_le]
      rcases hf with q | q
      · exact absurd q c
      · exact ih (k + 1) b (a % b) _ (by omega) (by omega) hb (by omega) q hq
theorem fin200 {a b : Int} (ha : 0 ≤ a) (hb : 0 ≤ b ∧ b < 1000000000000) : fin_ 200 a b := by
  have h : (2 : Int) ^ 40 = 1099511627776 := by decide
  refine fin_mono (2 * 40 + 1) 200 a b (by omega) (fin_lt 40 a b ha hb.1 ?_)
  rw [h]; omega
theorem q_commonDivisor (d : Nat) (s : Mem) (a b : Int) (ha : 0 ≤ a ∧ a < 1000000000000) (hb : 0 ≤ b ∧ b < 1000000000000) : sem (d + 1) 192 [a, b] s = some (eu 200 a b, s) := by
  apply CV_eq; apply c_M_commonDivisor
  simp (disch := first | assumption | omega) only [rn, wk, al, wr_e, td_e, tm_e, mset_eq, mset_ne, if_pos, if_neg, Int.reduceAdd, Int.reduceSub, Int.reduceMul, Int.reduceNeg, Int.reduceLT, Int.reduceLE, Int.reduceEq, Int.cast_ofNat_Int, eq_self, and_true, true_and, ite_self, true_or, or_true, false_or, or_false, and_false, false_and, not_true_eq_false, not_false_eq_true, if_true, if_false, e_M_commonDivisor_0, e_M_commonDivisor_45]
  exact lp_cd d s a b _ 200 0 a b 0 (by omega) (by omega) ha hb (fin200 ha.1 hb) ⟨rfl, rfl⟩
theorem dv_b {a g : Int} (ha : 0 ≤ a ∧ a < 1000000000000) (hg : 0 < g) : 0 ≤ a / g ∧ a / g < 1000000000000 := by
  have h1 : 0 ≤ a / g := Int.ediv_nonneg ha.1 (by omega)
  have h2 : a / g ≤ a := Int.ediv_le_self g ha.1
  omega
theorem q_tell (d : Nat) (s : Mem) (a b : Int) (ha : 0 ≤ a ∧ a < 1000000000000) (hb : 0 < b ∧ b < 1000000000000) : sem (d + 2) 191 [0, a, b] s = some (0, mset (mset s 0 1 (a / eu 200 a b)) 0 2 (b / eu 200 a b)) := by
  apply CV_eq; apply c_M_tell
  have hg := eu_pos 200 a b ha.1 (by omega) (by omega) (fin200 ha.1 (by omega))
  have d1 := dv_b ha hg
  have d2 := dv_b (a := b) (by omega) hg
  have qc := q_commonDivisor d s a b ha (by omega)
  generalize eu 200 a b = g at *
  simp (disch := first | assumption | omega) only [rn, wk, al, wr_e, td_e, tm_e, mset_eq, mset_ne, if_pos, if_neg, Int.reduceAdd, Int.reduceSub, Int.reduceMul, Int.reduceNeg, Int.reduceLT, Int.reduceLE, Int.reduceEq, Int.cast_ofNat_Int, eq_self, and_true, true_and, ite_self, true_or, or_true, false_or, or_false, and_false, false_and, not_true_eq_false, not_false_eq_true, if_true, if_false, e_M_tell_0, e_M_tell_30, qc, lcmp_le, wl_e]
theorem lp_tb (d : Nat) (s : Mem) (x1 x3 : Int) (Q : Int → Mem → Prop) : ∀ (n : Nat) (a b z : Int), (0 ≤ a ∧ a < 1000000000000) → (0 ≤ b ∧ b < 1000000000000) → fin_ n a b → (∀ z, EV (d + 1) o_R_tellsBy 31 [] [137, x1, 0, x3, 0, eu n a b, 0, 0, 0, z, 0] s Q) → EV (d + 1) o_R_tellsBy 6 [] [137, x1, 0, x3, 0, a, 0, b, 0, z, 0] s Q := by
  intro n
  induction n with
  | zero =>
    intro a b z ha hb hf hq
    have hf : b = 0 := hf
    subst hf
    rw [e_R_tellsBy_6]
    simp (disch := first | assumption | omega) only [rn, wk, al, wr_e, td_e, tm_e, mset_eq, mset_ne, if_pos, if_neg, Int.reduceAdd, Int.reduceSub, Int.reduceMul, Int.reduceNeg, Int.reduceLT, Int.reduceLE, Int.reduceEq, Int.cast_ofNat_Int, eq_self, and_true, true_and, ite_self, true_or, or_true, false_or, or_false, and_false, false_and, not_true_eq_false, not_false_eq_true, if_true, if_false, lcmp_eq]
    exact hq z
  | succ n ih =>
    intro a b z ha hb hf hq
    rw [e_R_tellsBy_6]
    by_cases c : b = 0
    · subst c
      have e : eu (n + 1) a 0 = a := by unfold eu; rw [if_pos rfl]
      rw [e] at hq
      simp (disch := first | assumption | omega) only [rn, wk, al, wr_e, td_e, tm_e, mset_eq, mset_ne, if_pos, if_neg, Int.reduceAdd, Int.reduceSub, Int.reduceMul, Int.reduceNeg, Int.reduceLT, Int.reduceLE, Int.reduceEq, Int.cast_ofNat_Int, eq_self, and_true, true_and, ite_self, true_or, or_true, false_or, or_false, and_false, false_and, not_true_eq_false, not_false_eq_true, if_true, if_false, lcmp_eq]
      exact hq z
    · have e : eu (n + 1) a b = eu n b (a % b) := by
        show (if b = 0 then a else eu n b (a % b)) = _
        rw [if_neg c]
      rw [e] at hq
      have h1 : 0 ≤ a % b := Int.emod_nonneg a c
      have h2 : a % b < b := Int.emod_lt_of_pos a (by omega)
      simp (disch := first | assumption | omega) only [rn, wk, al, wr_e, td_e, tm_e, mset_eq, mset_ne, if_pos, if_neg, Int.reduceAdd, Int.reduceSub, Int.reduceMul, Int.reduceNeg, Int.reduceLT, Int.reduceLE, Int.reduceEq, Int.cast_ofNat_Int, eq_self, and_true, true_and, ite_self, true_or, or_true, false_or, or_false, and_false, false_and, not_true_eq_false, not_false_eq_true, if_true, if_false, lcmp_eq]
      rcases hf with q | q
      · exact absurd q c
      · exact ih b (a % b) _ hb (by omega) q hq
theorem q_tellsBy (d : Nat) (s : Mem) (a b : Int) (ha : 0 ≤ a ∧ a < 1000000000000) (hb : 0 < b ∧ b < 1000000000000) : sem (d + 2) 353 [137, a, b] s = some (1, mset (mset (mset s 137 3 (a / eu 200 a b)) 137 4 (b / eu 200 a b)) 137 2 0) := by
  apply CV_eq; apply c_R_tellsBy
  have hf := fin200 (b := b) ha.1 (by omega)
  have hg := eu_pos 200 a b ha.1 (by omega) (by omega) hf
  have d1 := dv_b ha hg
  have d2 := dv_b (a := b) (by omega) hg
  simp (disch := first | assumption | omega) only [rn, wk, al, wr_e, td_e, tm_e, mset_eq, mset_ne, if_pos, if_neg, Int.reduceAdd, Int.reduceSub, Int.reduceMul, Int.reduceNeg, Int.reduceLT, Int.reduceLE, Int.reduceEq, Int.cast_ofNat_Int, eq_self, and_true, true_and, ite_self, true_or, or_true, false_or, or_false, and_false, false_and, not_true_eq_false, not_false_eq_true, if_true, if_false, e_R_tellsBy_0, e_R_tellsBy_31]
  refine lp_tb d s a b _ 200 a b 0 ha (by omega) hf ?_
  intro z
  generalize eu 200 a b = g at *
  simp (disch := first | assumption | omega) only [rn, wk, al, wr_e, td_e, tm_e, mset_eq, mset_ne, if_pos, if_neg, Int.reduceAdd, Int.reduceSub, Int.reduceMul, Int.reduceNeg, Int.reduceLT, Int.reduceLE, Int.reduceEq, Int.cast_ofNat_Int, eq_self, and_true, true_and, ite_self, true_or, or_true, false_or, or_false, and_false, false_and, not_true_eq_false, not_false_eq_true, if_true, if_false, e_R_tellsBy_0, e_R_tellsBy_31, q_is, wl_e]
theorem inv_tell {s v t u : Mem} (x y : Int) (hi : Inv s) (hv : Fx s 2 v) (ht : t = mset (mset (mset v 0 1 x) 0 2 y) 0 0 0) (hu : Ff t u) : Inv (mset (mset (mset u 137 3 x) 137 4 y) 137 2 0) := by
  subst ht
  have G : ∀ c i, c ≠ 147 → c ≠ 146 → ¬ (c = 137 ∧ (i = 26 ∨ i = 27)) → c ≠ 2 → ¬ (c = 0 ∧ i ≤ 2) → u c i = s c i := fun c i a b e f g => by
    by_cases hc : c = 0 ∧ i < 0
    · rw [hu c i a b e, mset_ne (by omega), mset_ne (by omega), mset_ne (by omega), hv c i f]
    · rw [hu c i a b e, mset_ne (by omega), mset_ne (by omega), mset_ne (by omega), hv c i f]
  have hf := hi.2.1
  unfold FA at hf
  have g1 : u 0 1 = x := by rw [hu _ _ (by omega) (by omega) (by omega), mset_ne (by omega), mset_ne (by omega), mset_eq rfl rfl]
  have g2 : u 0 2 = y := by rw [hu _ _ (by omega) (by omega) (by omega), mset_ne (by omega), mset_eq rfl rfl]
  have g0 : u 0 0 = 0 := by rw [hu _ _ (by omega) (by omega) (by omega), mset_eq rfl rfl]
  refine ⟨by rw [mset_eq rfl rfl, mset_ne (by omega), mset_ne (by omega), mset_ne (by omega), g0], ?_, keep_TR hi ?_, keep_TP hi ?_ ?_ ?_ ?_, keep_HR hi ?_ ?_ ?_, keep_MK hi ?_ ?_ ?_ ?_⟩
  · unfold FA
    simp (disch := omega) only [mset_eq, mset_ne, g1, g2, G]
    exact ⟨trivial, trivial, hf.2.2⟩
  all_goals
    intros
    simp (disch := omega) only [mset_ne, G]
