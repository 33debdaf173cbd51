/-! ===== H2: puts, laysLeft, putsAll, laysSums ===== -/
theorem Fl_trans {s u v : Mem} (h1 : Fl s u) (h2 : Fl u v) : Fl s v := fun c i a b => by rw [h2 c i a b, h1 c i a b]
theorem lp_pt2 (d : Nat) (A s w : Mem) (h : RB A s) (hw : Fl s w) (c y bt by_ x p : Int) (hc : 0 ≤ c ∧ c < A 0 4) (hy : 0 ≤ y ∧ y < A 7 c) (hbt : 0 ≤ bt ∧ bt ≤ 20) (hby : by_ = 1 ∨ by_ = -1) (hx : 0 ≤ x ∧ x < A 0 3) (hp : 0 ≤ p ∧ p < A 0 1) (hwb : ∀ j, 0 ≤ j ∧ j < 364 → -900000 ≤ w 147 j ∧ w 147 j ≤ 900000) (Q : Int → Mem → Prop) (hQ : ∀ u z, Fl s u → LF u → (∀ x' b, 0 ≤ x' ∧ x' < 4 → 0 ≤ b ∧ b < 91 → u 147 (91 * x' + b) = w 147 (91 * x' + b) + if x' = x ∧ bt + dP A c p / 1000 ≤ b ∧ b < bt + dP A c p / 1000 + 3 then by_ * aP A (3 * c + y) p (b - (bt + dP A c p / 1000)) else 0) → EV (d + 3) o_R_puts 85 [] [137, c, y, bt, by_, x, p, 3, z] u Q) : ∀ (n : Nat) (i : Int) (u : Mem) (z : Int), 0 ≤ i → i + n = 3 → Fl s u → LF u → (∀ x' b, 0 ≤ x' ∧ x' < 4 → 0 ≤ b ∧ b < 91 → u 147 (91 * x' + b) = w 147 (91 * x' + b) + if x' = x ∧ bt + dP A c p / 1000 ≤ b ∧ b < bt + dP A c p / 1000 + i then by_ * aP A (3 * c + y) p (b - (bt + dP A c p / 1000)) else 0) → EV (d + 3) o_R_puts 29 [] [137, c, y, bt, by_, x, p, i, z] u Q := by
  have h1 := h.1.1
  unfold VC at h1
  have hd := (nf_d h hc hp).2.2
  have hl := (h.1.2.2.1 c hc).2.1
  have hq : vQ A (3 * c + y) := by
    have e1 : (3 * c + y) / 3 = c := by omega
    have e2 : (3 * c + y) % 3 = y := by omega
    unfold vQ; rw [e1, e2]; omega
  intro n
  induction n with
  | zero =>
    intro i u z h0 hi hf hl hu
    have ei : i = 3 := by omega
    subst ei
    rw [e_R_puts_29]
    simp (disch := first | assumption | omega) only [rn, wk, al, wr_e, td_e, tm_e, mset_eq, mset_ne, if_pos, if_neg, Int.reduceAdd, Int.reduceSub, Int.reduceMul, Int.reduceNeg, Int.reduceLT, Int.reduceLE, Int.reduceEq, Int.cast_ofNat_Int, eq_self, and_true, true_and, ite_self, true_or, or_true, false_or, or_false, and_false, false_and, not_true_eq_false, not_false_eq_true, if_true, if_false]
    exact hQ u z hf hl hu
  | succ n ih =>
    intro i u z h0 hi hf hl hu
    have hb := aP_ok h.1 hq hp (i := i) (by omega)
    have hR : RB A u := RB_congr (Fl_cell hf (by omega) (by omega)) (Fl_cell hf (by omega) (by omega)) h
    have ql := q_loudAt d A u hR c y i p hc hy (by omega) hp
    rw [e_R_puts_29]
    by_cases c0 : aP A (3 * c + y) p i ≤ 0
    · have e0 : aP A (3 * c + y) p i = 0 := by omega
      simp (disch := first | assumption | omega) only [rn, wk, al, wr_e, td_e, tm_e, mset_eq, mset_ne, if_pos, if_neg, Int.reduceAdd, Int.reduceSub, Int.reduceMul, Int.reduceNeg, Int.reduceLT, Int.reduceLE, Int.reduceEq, Int.cast_ofNat_Int, eq_self, and_true, true_and, ite_self, true_or, or_true, false_or, or_false, and_false, false_and, not_true_eq_false, not_false_eq_true, if_true, if_false, e_R_puts_0, e_R_puts_79, e_R_puts_85, e_R_puts_91, ql]
      refine ih (i + 1) u _ (by omega) (by omega) hf hl ?_
      intro x' b hx' hb'
      rw [hu x' b hx' hb']
      by_cases e : x' = x ∧ b = bt + dP A c p / 1000 + i
      · rw [if_neg (by omega), if_pos (by omega), e.2, show bt + dP A c p / 1000 + i - (bt + dP A c p / 1000) = i by omega, e0, Int.mul_zero]
      · by_cases c3 : x' = x ∧ bt + dP A c p / 1000 ≤ b ∧ b < bt + dP A c p / 1000 + i
        · rw [if_pos c3, if_pos (by omega)]
        · rw [if_neg c3, if_neg (by omega)]
    · have hd1 : dP A c p < 10000000 := by
        rcases hd with ⟨q, -⟩ | ⟨a, b, q⟩
        · exfalso; apply c0
          unfold aP
          rw [show (3 * c + y) / 3 = c by omega, if_neg (by omega)]; omega
        · omega
      have hd2 : 0 ≤ dP A c p / 1000 ∧ dP A c p / 1000 ≤ 54 := by
        rcases hd with q | ⟨a, b, q⟩ <;> omega
      have qb := q_behindAt (d + 1) A u hR c p hc hp hd1
      have hu1 := hu x (bt + dP A c p / 1000 + i) (by omega) (by omega)
      rw [if_neg (by omega), Int.add_zero] at hu1
      have hwb1 := hwb (91 * x + (bt + dP A c p / 1000 + i)) (by omega)
      have ej : 91 * x + bt + i + dP A c p / 1000 = 91 * x + (bt + dP A c p / 1000 + i) := by omega
      have em : -99 ≤ by_ * aP A (3 * c + y) p i ∧ by_ * aP A (3 * c + y) p i ≤ 99 := by
        rcases hby with rfl | rfl <;> omega
      simp (disch := first | assumption | omega) only [rn, wk, al, wr_e, td_e, tm_e, mset_eq, mset_ne, if_pos, if_neg, Int.reduceAdd, Int.reduceSub, Int.reduceMul, Int.reduceNeg, Int.reduceLT, Int.reduceLE, Int.reduceEq, Int.cast_ofNat_Int, eq_self, and_true, true_and, ite_self, true_or, or_true, false_or, or_false, and_false, false_and, not_true_eq_false, not_false_eq_true, if_true, if_false, ql, qb, ej]
      refine EV_call (CV_mono (q_changes _ u (91 * x + (bt + dP A c p / 1000 + i)) (by_ * aP A (3 * c + y) p i) (by omega) (by omega) (by omega) hl) ?_)
      rintro r t ⟨t1, t2, t3⟩
      simp (disch := first | assumption | omega) only [rn, wk, al, wr_e, td_e, tm_e, mset_eq, mset_ne, if_pos, if_neg, Int.reduceAdd, Int.reduceSub, Int.reduceMul, Int.reduceNeg, Int.reduceLT, Int.reduceLE, Int.reduceEq, Int.cast_ofNat_Int, eq_self, and_true, true_and, ite_self, true_or, or_true, false_or, or_false, and_false, false_and, not_true_eq_false, not_false_eq_true, if_true, if_false, e_R_puts_0, e_R_puts_79, e_R_puts_85, e_R_puts_91]
      refine ih (i + 1) t _ (by omega) (by omega) (Fl_trans hf t1) t3 ?_
      intro x' b hx' hb'
      rw [t2]
      unfold upf
      by_cases e : x' = x ∧ b = bt + dP A c p / 1000 + i
      · obtain ⟨rfl, rfl⟩ := e
        rw [if_pos rfl, if_pos (by omega), hu1, show bt + dP A c p / 1000 + i - (bt + dP A c p / 1000) = i by omega]
      · rw [if_neg (by omega), hu x' b hx' hb']
        by_cases c3 : x' = x ∧ bt + dP A c p / 1000 ≤ b ∧ b < bt + dP A c p / 1000 + i
        · rw [if_pos c3, if_pos (by omega)]
        · rw [if_neg c3, if_neg (by omega)]
theorem lp_pt1 (d : Nat) (A s : Mem) (h : RB A s) (c y bt by_ : Int) (hc : 0 ≤ c ∧ c < A 0 4) (hy : 0 ≤ y ∧ y < A 7 c) (hbt : 0 ≤ bt ∧ bt ≤ 20) (hby : by_ = 1 ∨ by_ = -1) (hsb : ∀ j, 0 ≤ j ∧ j < 364 → -800000 ≤ s 147 j ∧ s 147 j ≤ 800000) (Q : Int → Mem → Prop) (hQ : ∀ u, Fl s u → LF u → (∀ x' b, 0 ≤ x' ∧ x' < 4 → 0 ≤ b ∧ b < 91 → u 147 (91 * x' + b) = s 147 (91 * x' + b) + if x' < A 0 3 then by_ * pt A (63 * c + 21 * y + bt) x' b else 0) → Q 0 u) : ∀ (n : Nat) (x : Int) (u : Mem) (z1 z2 z3 : Int), 0 ≤ x → x + n = A 0 3 → Fl s u → LF u → (∀ x' b, 0 ≤ x' ∧ x' < 4 → 0 ≤ b ∧ b < 91 → u 147 (91 * x' + b) = s 147 (91 * x' + b) + if x' < x then by_ * pt A (63 * c + 21 * y + bt) x' b else 0) → EV (d + 3) o_R_puts 3 [] [137, c, y, bt, by_, x, z1, z2, z3] u Q := by
  have h1 := h.1.1
  unfold VC at h1
  have hrc := h.2.1
  unfold RC at hrc
  have hl := (h.1.2.2.1 c hc).2.1
  have e21 : (63 * c + 21 * y + bt) / 21 = 3 * c + y := by omega
  have e63 : (63 * c + 21 * y + bt) / 63 = c := by omega
  have em : (63 * c + 21 * y + bt) % 21 = bt := by omega
  have hq : vQ A (3 * c + y) := by
    have e1 : (3 * c + y) / 3 = c := by omega
    have e2 : (3 * c + y) % 3 = y := by omega
    unfold vQ; rw [e1, e2]; omega
  have hvK : vK A (63 * c + 21 * y + bt) := by
    unfold vK; rw [e21]; exact ⟨by omega, by omega, hq⟩
  intro n
  induction n with
  | zero =>
    intro x u z1 z2 z3 h0 hx hf hl hu
    have ex : x = A 0 3 := by omega
    have g2 : u 138 2 = A 0 3 := by rw [Fl_cell hf (by omega) (by omega)]; exact hrc.2.2.1
    subst ex
    have hq := hQ u hf hl hu
    rw [e_R_puts_3]
    simp (disch := first | assumption | omega) only [rn, wk, al, wr_e, td_e, tm_e, mset_eq, mset_ne, if_pos, if_neg, Int.reduceAdd, Int.reduceSub, Int.reduceMul, Int.reduceNeg, Int.reduceLT, Int.reduceLE, Int.reduceEq, Int.cast_ofNat_Int, eq_self, and_true, true_and, ite_self, true_or, or_true, false_or, or_false, and_false, false_and, not_true_eq_false, not_false_eq_true, if_true, if_false, e_R_puts_0, e_R_puts_79, e_R_puts_85, e_R_puts_91, g2]
    exact hq
  | succ n ih =>
    intro x u z1 z2 z3 h0 hx hf hl hu
    have g2 : u 138 2 = A 0 3 := by rw [Fl_cell hf (by omega) (by omega)]; exact hrc.2.2.1
    have g50 : u 138 (50 + x) = A 5 x := by rw [Fl_cell hf (by omega) (by omega)]; exact h.2.2.1 x (by omega)
    have hp := h.1.2.1 x (by omega)
    have hub : ∀ j, 0 ≤ j ∧ j < 364 → -900000 ≤ u 147 j ∧ u 147 j ≤ 900000 := by
      intro j hj
      have q := hu (j / 91) (j % 91) (by omega) (by omega)
      rw [show 91 * (j / 91) + j % 91 = j by omega] at q
      have := hsb j hj
      rw [q]
      by_cases c1 : j / 91 < x
      · have := pt_ok h.1 (b := j % 91) hvK (x := j / 91) (by omega)
        rw [if_pos c1]
        rcases hby with rfl | rfl <;> omega
      · rw [if_neg c1]; omega
    have hR : RB A u := RB_congr (Fl_cell hf (by omega) (by omega)) (Fl_cell hf (by omega) (by omega)) h
    rw [e_R_puts_3]
    simp (disch := first | assumption | omega) only [rn, wk, al, wr_e, td_e, tm_e, mset_eq, mset_ne, if_pos, if_neg, Int.reduceAdd, Int.reduceSub, Int.reduceMul, Int.reduceNeg, Int.reduceLT, Int.reduceLE, Int.reduceEq, Int.cast_ofNat_Int, eq_self, and_true, true_and, ite_self, true_or, or_true, false_or, or_false, and_false, false_and, not_true_eq_false, not_false_eq_true, if_true, if_false, g2, g50]
    refine lp_pt2 d A s u h hf c y bt by_ x (A 5 x) hc hy hbt hby (by omega) hp hub Q ?_ 3 0 u _ (by omega) (by omega) hf hl ?_
    · intro u' z' hf' hl' hu'
      simp (disch := first | assumption | omega) only [rn, wk, al, wr_e, td_e, tm_e, mset_eq, mset_ne, if_pos, if_neg, Int.reduceAdd, Int.reduceSub, Int.reduceMul, Int.reduceNeg, Int.reduceLT, Int.reduceLE, Int.reduceEq, Int.cast_ofNat_Int, eq_self, and_true, true_and, ite_self, true_or, or_true, false_or, or_false, and_false, false_and, not_true_eq_false, not_false_eq_true, if_true, if_false, e_R_puts_0, e_R_puts_79, e_R_puts_85, e_R_puts_91]
      refine ih (x + 1) u' _ _ _ (by omega) (by omega) hf' hl' ?_
      intro x' b hx' hb'
      rw [hu' x' b hx' hb', hu x' b hx' hb']
      have hpb := pt_bg h.1 (b := b) hvK (y := x) (by omega) hb'
      rw [e63, e21, em] at hpb
      by_cases e : x' = x
      · subst e
        rw [if_neg (show ¬ x' < x' by omega), if_pos (show x' < x' + 1 by omega), Int.add_zero]
        rcases hpb with ⟨q1, q2⟩ | ⟨q1, q2, q3, q4⟩
        · rw [q2, q1, if_neg (by omega), Int.mul_zero]
        · rw [q4]
          by_cases c3 : bt + dP A c (A 5 x') / 1000 ≤ b ∧ b < bt + dP A c (A 5 x') / 1000 + 3
          · rw [if_pos ⟨rfl, c3⟩, if_pos c3]
          · rw [if_neg (fun h => c3 h.2), if_neg c3, Int.mul_zero]
      · by_cases c3 : x' < x
        · rw [if_pos c3, if_neg (fun h => e h.1), Int.add_zero, if_pos (by omega)]
        · rw [if_neg c3, if_neg (fun h => e h.1), Int.add_zero, if_neg (by omega)]
    · intro x' b hx' hb'
      rw [if_neg (by omega), Int.add_zero]
theorem q_puts (d : Nat) (A s : Mem) (h : RB A s) (hl : LF s) (c y bt by_ : Int) (hc : 0 ≤ c ∧ c < A 0 4) (hy : 0 ≤ y ∧ y < A 7 c) (hbt : 0 ≤ bt ∧ bt ≤ 20) (hby : by_ = 1 ∨ by_ = -1) (hsb : ∀ j, 0 ≤ j ∧ j < 364 → -800000 ≤ s 147 j ∧ s 147 j ≤ 800000) : CV (d + 4) 302 [137, c, y, bt, by_] s fun _ u => Fl s u ∧ LF u ∧ ∀ x b, 0 ≤ x ∧ x < 4 → 0 ≤ b ∧ b < 91 → u 147 (91 * x + b) = s 147 (91 * x + b) + if x < A 0 3 then by_ * pt A (63 * c + 21 * y + bt) x b else 0 := by
  have h1 := h.1.1
  unfold VC at h1
  apply c_R_puts
  simp (disch := first | assumption | omega) only [rn, wk, al, wr_e, td_e, tm_e, mset_eq, mset_ne, if_pos, if_neg, Int.reduceAdd, Int.reduceSub, Int.reduceMul, Int.reduceNeg, Int.reduceLT, Int.reduceLE, Int.reduceEq, Int.cast_ofNat_Int, eq_self, and_true, true_and, ite_self, true_or, or_true, false_or, or_false, and_false, false_and, not_true_eq_false, not_false_eq_true, if_true, if_false, e_R_puts_0, e_R_puts_79, e_R_puts_85, e_R_puts_91]
  refine lp_pt1 d A s h c y bt by_ hc hy hbt hby hsb _ (fun u a b e => ⟨a, b, e⟩) (A 0 3).toNat 0 s _ _ _ (by omega) (by omega) (fun _ _ _ _ => rfl) hl ?_
  intro x b hx hb
  rw [if_neg (by omega), Int.add_zero]
/-- what laysLeft lays -/
def llF (s : Mem) (f j : Int) : Int := if f = 1 ∧ j < 91 * s 138 2 then s 138 (134 + j) else 0
theorem lp_ll (d : Nat) (s : Mem) (f : Int) (hf01 : f = 0 ∨ f = 1) (h2 : 0 ≤ s 138 2 ∧ s 138 2 ≤ 4) (hv : ∀ j, 0 ≤ j ∧ j < 364 → 0 ≤ llF s f j ∧ llF s f j ≤ 999) (Q : Int → Mem → Prop) (hQ : ∀ u, Fl s u → LF u → (∀ j, 0 ≤ j ∧ j < 364 → u 147 j = llF s f j) → Q 0 u) : ∀ (n : Nat) (k : Nat) (u : Mem), k + n = 364 → Fl s u → (∀ j, 0 ≤ j ∧ j < (k : Int) → u 147 j = llF s f j) → u 137 26 = sg (fun j => p1_ (llF s f j)) 0 k → u 137 27 = 0 → EV d o_R_laysLeft 12 [] [137, f, k] u Q := by
  intro n
  induction n with
  | zero =>
    intro k u hk hf hu h26 h27
    have ek : k = 364 := by omega
    subst ek
    have hq := hQ u hf ⟨by
      rw [h26]; unfold cpos
      exact sg_congr 364 0 (fun i a b => by rw [hu i (by omega)]), by
      rw [h27]; unfold cneg
      have : sg (fun k => n1_ (u 147 k)) 0 364 = sg (fun _ => 0) 0 364 := sg_congr 364 0 (fun i a b => by
        have := hv i (by omega)
        rw [hu i (by omega)]; unfold n1_; rw [if_neg (by omega)])
      rw [this]
      have := sg_bd (f := fun _ => 0) (m := 0) 364 0 (fun _ _ _ => by omega)
      omega⟩ (fun j hj => hu j (by omega))
    rw [e_R_laysLeft_12]
    simp (disch := first | assumption | omega) only [rn, wk, al, wr_e, td_e, tm_e, mset_eq, mset_ne, if_pos, if_neg, Int.reduceAdd, Int.reduceSub, Int.reduceMul, Int.reduceNeg, Int.reduceLT, Int.reduceLE, Int.reduceEq, Int.cast_ofNat_Int, eq_self, and_true, true_and, ite_self, true_or, or_true, false_or, or_false, and_false, false_and, not_true_eq_false, not_false_eq_true, if_true, if_false, e_R_laysLeft_0, e_R_laysLeft_54, e_R_laysLeft_55, e_R_laysLeft_74, e_R_laysLeft_75, e_R_laysLeft_85]
    exact hq
  | succ n ih =>
    intro k u hk hf hu h26 h27
    have g138 : ∀ j, u 138 j = s 138 j := fun j => hf _ _ (by omega) (by omega)
    have hv1 := hv k (by omega)
    have hb := sg_bd (f := fun j => p1_ (llF s f j)) (m := 1) k 0 (fun i _ _ => by unfold p1_; split <;> omega)
    have fin : ∀ t : Mem, (∀ c i, t c i = mset (mset u 147 k (llF s f k)) 137 26 (u 137 26 + p1_ (llF s f k)) c i) → EV d o_R_laysLeft 12 [] [137, f, (k : Int) + 1] t Q := by
      intro t ht
      refine ih (k + 1) t (by omega) ?_ ?_ ?_ ?_
      · intro c i a b
        rw [ht, mset_ne (by omega), mset_ne (by omega)]; exact hf c i a b
      · intro j hj
        rw [ht, mset_ne (by omega)]
        by_cases e : j = k
        · rw [e, mset_eq rfl rfl]
        · rw [mset_ne (by omega)]; exact hu j (by omega)
      · rw [ht, mset_eq rfl rfl, sg_last, h26, Int.zero_add]
      · rw [ht, mset_ne (by omega), mset_ne (by omega)]; exact h27
    rw [e_R_laysLeft_12]
    by_cases c : f = 1 ∧ (k : Int) < 91 * s 138 2
    · have e1 : llF s f k = s 138 (134 + k) := by unfold llF; rw [if_pos c]
      rw [e1] at fin hv1
      by_cases c2 : 0 < s 138 (134 + k)
      · have ep : p1_ (s 138 (134 + k)) = 1 := by unfold p1_; rw [if_pos c2]
        rw [ep] at fin
        simp (disch := first | assumption | omega) only [rn, wk, al, wr_e, td_e, tm_e, mset_eq, mset_ne, if_pos, if_neg, Int.reduceAdd, Int.reduceSub, Int.reduceMul, Int.reduceNeg, Int.reduceLT, Int.reduceLE, Int.reduceEq, Int.cast_ofNat_Int, eq_self, and_true, true_and, ite_self, true_or, or_true, false_or, or_false, and_false, false_and, not_true_eq_false, not_false_eq_true, if_true, if_false, e_R_laysLeft_0, e_R_laysLeft_54, e_R_laysLeft_55, e_R_laysLeft_74, e_R_laysLeft_75, e_R_laysLeft_85, g138]
        exact fin _ (fun _ _ => rfl)
      · have ep : p1_ (s 138 (134 + k)) = 0 := by unfold p1_; rw [if_neg c2]
        rw [ep] at fin
        simp (disch := first | assumption | omega) only [rn, wk, al, wr_e, td_e, tm_e, mset_eq, mset_ne, if_pos, if_neg, Int.reduceAdd, Int.reduceSub, Int.reduceMul, Int.reduceNeg, Int.reduceLT, Int.reduceLE, Int.reduceEq, Int.cast_ofNat_Int, eq_self, and_true, true_and, ite_self, true_or, or_true, false_or, or_false, and_false, false_and, not_true_eq_false, not_false_eq_true, if_true, if_false, e_R_laysLeft_0, e_R_laysLeft_54, e_R_laysLeft_55, e_R_laysLeft_74, e_R_laysLeft_75, e_R_laysLeft_85, g138]
        exact fin _ (fun _ _ => rfl)
    · have e1 : llF s f k = 0 := by unfold llF; rw [if_neg c]
      rw [e1] at fin
      have ep : p1_ 0 = 0 := rfl
      rw [ep] at fin
      rcases hf01 with rfl | rfl
      · simp (disch := first | assumption | omega) only [rn, wk, al, wr_e, td_e, tm_e, mset_eq, mset_ne, if_pos, if_neg, Int.reduceAdd, Int.reduceSub, Int.reduceMul, Int.reduceNeg, Int.reduceLT, Int.reduceLE, Int.reduceEq, Int.cast_ofNat_Int, eq_self, and_true, true_and, ite_self, true_or, or_true, false_or, or_false, and_false, false_and, not_true_eq_false, not_false_eq_true, if_true, if_false, e_R_laysLeft_0, e_R_laysLeft_54, e_R_laysLeft_55, e_R_laysLeft_74, e_R_laysLeft_75, e_R_laysLeft_85, g138]
        exact fin _ (fun _ _ => rfl)
      · simp (disch := first | assumption | omega) only [rn, wk, al, wr_e, td_e, tm_e, mset_eq, mset_ne, if_pos, if_neg, Int.reduceAdd, Int.reduceSub, Int.reduceMul, Int.reduceNeg, Int.reduceLT, Int.reduceLE, Int.reduceEq, Int.cast_ofNat_Int, eq_self, and_true, true_and, ite_self, true_or, or_true, false_or, or_false, and_false, false_and, not_true_eq_false, not_false_eq_true, if_true, if_false, e_R_laysLeft_0, e_R_laysLeft_54, e_R_laysLeft_55, e_R_laysLeft_74, e_R_laysLeft_75, e_R_laysLeft_85, g138]
        exact fin _ (fun _ _ => rfl)
theorem q_laysLeft (d : Nat) (s : Mem) (f : Int) (hf01 : f = 0 ∨ f = 1) (h2 : 0 ≤ s 138 2 ∧ s 138 2 ≤ 4) (hv : ∀ j, 0 ≤ j ∧ j < 364 → 0 ≤ llF s f j ∧ llF s f j ≤ 999) : CV (d + 1) 300 [137, f] s fun _ u => Fl s u ∧ LF u ∧ ∀ j, 0 ≤ j ∧ j < 364 → u 147 j = llF s f j := by
  apply c_R_laysLeft
  simp (disch := first | assumption | omega) only [rn, wk, al, wr_e, td_e, tm_e, mset_eq, mset_ne, if_pos, if_neg, Int.reduceAdd, Int.reduceSub, Int.reduceMul, Int.reduceNeg, Int.reduceLT, Int.reduceLE, Int.reduceEq, Int.cast_ofNat_Int, eq_self, and_true, true_and, ite_self, true_or, or_true, false_or, or_false, and_false, false_and, not_true_eq_false, not_false_eq_true, if_true, if_false, e_R_laysLeft_0, e_R_laysLeft_54, e_R_laysLeft_55, e_R_laysLeft_74, e_R_laysLeft_75, e_R_laysLeft_85]
  refine lp_ll d s f hf01 h2 hv _ (fun u a b e => ⟨a, b, e⟩) 364 0 _ (by omega) ?_ (fun j hj => by omega) ?_ ?_
  · intro c i a b; rw [mset_ne (by omega), mset_ne (by omega)]
  · rw [mset_ne (by omega), mset_eq rfl rfl]; rfl
  · rw [mset_eq rfl rfl]
