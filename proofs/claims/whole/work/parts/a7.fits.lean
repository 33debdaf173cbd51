/-! ===== H2: firstLeft, beginFor, fits ===== -/
theorem q_firstLeft (d : Nat) (s : Mem) (f e : Int) (hf : 0 ≤ f ∧ f ≤ e) (he : e < 364) (hp : 0 < s 18 e) (hz : ∀ j, f ≤ j ∧ j < e → s 18 j ≤ 0) : sem (d + 1) 148 [14, f] s = some (e, s) := by
  have lp : ∀ (n : Nat) (i : Int), f ≤ i → i + n = e → ∀ Q : Int → Mem → Prop, Q e s → EV d o_Guess_firstLeft 2 [] [14, f, i] s Q := by
    intro n
    induction n with
    | zero =>
      intro i h0 hi Q hq
      have ei : i = e := by omega
      subst ei
      rw [e_Guess_firstLeft_2]
      simp (disch := first | assumption | omega) only [rn, wk, al, wr_e, td_e, tm_e, mset_eq, mset_ne, if_pos, if_neg, Int.reduceAdd, Int.reduceSub, Int.reduceMul, Int.reduceNeg, Int.reduceLT, Int.reduceLE, Int.reduceEq, Int.cast_ofNat_Int, eq_self, and_true, true_and, ite_self, true_or, or_true, false_or, or_false, and_false, false_and, not_true_eq_false, not_false_eq_true, if_true, if_false, e_Guess_firstLeft_0, e_Guess_firstLeft_20, e_Guess_firstLeft_26]
      exact hq
    | succ n ih =>
      intro i h0 hi Q hq
      have := hz i (by omega)
      have hx := ih (i + 1) (by omega) (by omega) Q hq
      rw [e_Guess_firstLeft_2]
      simp (disch := first | assumption | omega) only [rn, wk, al, wr_e, td_e, tm_e, mset_eq, mset_ne, if_pos, if_neg, Int.reduceAdd, Int.reduceSub, Int.reduceMul, Int.reduceNeg, Int.reduceLT, Int.reduceLE, Int.reduceEq, Int.cast_ofNat_Int, eq_self, and_true, true_and, ite_self, true_or, or_true, false_or, or_false, and_false, false_and, not_true_eq_false, not_false_eq_true, if_true, if_false, e_Guess_firstLeft_0, e_Guess_firstLeft_20, e_Guess_firstLeft_26]
      exact hx
  apply CV_eq; apply c_Guess_firstLeft
  have hx := lp (e - f).toNat f (by omega) (by omega) (fun r t => r = e ∧ t = s) ⟨rfl, rfl⟩
  simp (disch := first | assumption | omega) only [rn, wk, al, wr_e, td_e, tm_e, mset_eq, mset_ne, if_pos, if_neg, Int.reduceAdd, Int.reduceSub, Int.reduceMul, Int.reduceNeg, Int.reduceLT, Int.reduceLE, Int.reduceEq, Int.cast_ofNat_Int, eq_self, and_true, true_and, ite_self, true_or, or_true, false_or, or_false, and_false, false_and, not_true_eq_false, not_false_eq_true, if_true, if_false, e_Guess_firstLeft_0, e_Guess_firstLeft_20, e_Guess_firstLeft_26]
  exact hx
def bgn (u : Mem) (q x b : Int) : Int := if u 21 (4 * q + x) = -1 then -1 else if 0 ≤ b - u 20 (4 * q + x) - u 21 (4 * q + x) ∧ b - u 20 (4 * q + x) - u 21 (4 * q + x) ≤ 20 then b - u 20 (4 * q + x) - u 21 (4 * q + x) else -1
theorem q_beginFor (d : Nat) (u : Mem) (q x b : Int) (hq : 0 ≤ q ∧ q < 15) (hr : rng x b) (h20 : u 21 (4 * q + x) ≠ -1 → (0 ≤ u 20 (4 * q + x) ∧ u 20 (4 * q + x) ≤ 54) ∧ (0 ≤ u 21 (4 * q + x) ∧ u 21 (4 * q + x) < 3)) : sem (d + 1) 149 [14, q, 4 * b + x] u = some (bgn u q x b, u) := by
  obtain ⟨hx, hb⟩ := hr
  have e1 : (4 * b + x) % 4 = x := by omega
  have e2 : (4 * b + x) / 4 = b := by omega
  have e3 : q * 4 + x = 4 * q + x := by omega
  unfold bgn
  apply CV_eq; apply c_Guess_beginFor
  by_cases c : u 21 (4 * q + x) = -1
  · rw [if_pos c]
    simp (disch := first | assumption | omega) only [rn, wk, al, wr_e, td_e, tm_e, mset_eq, mset_ne, if_pos, if_neg, Int.reduceAdd, Int.reduceSub, Int.reduceMul, Int.reduceNeg, Int.reduceLT, Int.reduceLE, Int.reduceEq, Int.cast_ofNat_Int, eq_self, and_true, true_and, ite_self, true_or, or_true, false_or, or_false, and_false, false_and, not_true_eq_false, not_false_eq_true, if_true, if_false, e_Guess_beginFor_0, e_Guess_beginFor_25, e_Guess_beginFor_27, e_Guess_beginFor_63, e_Guess_beginFor_64, e1, e2, e3, c]
  · rw [if_neg c]
    have h := h20 c
    by_cases c2 : 0 ≤ b - u 20 (4 * q + x) - u 21 (4 * q + x) ∧ b - u 20 (4 * q + x) - u 21 (4 * q + x) ≤ 20
    · rw [if_pos c2]
      simp (disch := first | assumption | omega) only [rn, wk, al, wr_e, td_e, tm_e, mset_eq, mset_ne, if_pos, if_neg, Int.reduceAdd, Int.reduceSub, Int.reduceMul, Int.reduceNeg, Int.reduceLT, Int.reduceLE, Int.reduceEq, Int.cast_ofNat_Int, eq_self, and_true, true_and, ite_self, true_or, or_true, false_or, or_false, and_false, false_and, not_true_eq_false, not_false_eq_true, if_true, if_false, e_Guess_beginFor_0, e_Guess_beginFor_25, e_Guess_beginFor_27, e_Guess_beginFor_63, e_Guess_beginFor_64, e1, e2, e3]
    · rw [if_neg c2]
      by_cases c3 : 0 ≤ b - u 20 (4 * q + x) - u 21 (4 * q + x)
      · simp (disch := first | assumption | omega) only [rn, wk, al, wr_e, td_e, tm_e, mset_eq, mset_ne, if_pos, if_neg, Int.reduceAdd, Int.reduceSub, Int.reduceMul, Int.reduceNeg, Int.reduceLT, Int.reduceLE, Int.reduceEq, Int.cast_ofNat_Int, eq_self, and_true, true_and, ite_self, true_or, or_true, false_or, or_false, and_false, false_and, not_true_eq_false, not_false_eq_true, if_true, if_false, e_Guess_beginFor_0, e_Guess_beginFor_25, e_Guess_beginFor_27, e_Guess_beginFor_63, e_Guess_beginFor_64, e1, e2, e3]
      · simp (disch := first | assumption | omega) only [rn, wk, al, wr_e, td_e, tm_e, mset_eq, mset_ne, if_pos, if_neg, Int.reduceAdd, Int.reduceSub, Int.reduceMul, Int.reduceNeg, Int.reduceLT, Int.reduceLE, Int.reduceEq, Int.cast_ofNat_Int, eq_self, and_true, true_and, ite_self, true_or, or_true, false_or, or_false, and_false, false_and, not_true_eq_false, not_false_eq_true, if_true, if_false, e_Guess_beginFor_0, e_Guess_beginFor_25, e_Guess_beginFor_27, e_Guess_beginFor_63, e_Guess_beginFor_64, e1, e2, e3]
theorem opn_p {A : Mem} {q x : Int} (h : 0 ≤ opn A q x) : 0 < aP A q (A 5 x) (opn A q x) := by
  unfold opn at h ⊢
  by_cases c0 : 0 < aP A q (A 5 x) 0
  · rw [if_pos c0]; exact c0
  · rw [if_neg c0] at h ⊢
    by_cases c1 : 0 < aP A q (A 5 x) 1
    · rw [if_pos c1]; exact c1
    · rw [if_neg c1] at h ⊢
      by_cases c2 : 0 < aP A q (A 5 x) 2
      · rw [if_pos c2]; exact c2
      · rw [if_neg c2] at h; omega
theorem opn_bP {A : Mem} (hv : VB A) {q x : Int} (hq : vQ A q) (hx : 0 ≤ x ∧ x < A 0 3) (h : 0 ≤ opn A q x) : 0 ≤ bP A q (A 5 x) ∧ bP A q (A 5 x) ≤ 54 := by
  have hd := (dP_ok hv (vQ_c hq) (hv.2.1 x hx)).2
  rcases hd with e | ⟨a, b, e⟩
  · exfalso
    have ez : ∀ i, aP A q (A 5 x) i = 0 := fun i => by unfold aP; rw [if_neg (by omega)]
    have := opn_p h
    rw [ez] at this; omega
  · unfold bP; omega
/-- what the call v brings on the slate x, i numbers behind its begin -/
theorem pX_at {A : Mem} {v x i : Int} (hx : x < A 0 3) (hi : 0 ≤ i ∧ i < 3) : pX A v x (v % 21 + bP A (v / 21) (A 5 x) + i) = aP A (v / 21) (A 5 x) i := by
  unfold pX pt
  rw [if_pos hx, if_pos (by omega), show v % 21 + bP A (v / 21) (A 5 x) + i - v % 21 - bP A (v / 21) (A 5 x) = i by omega]
theorem pX_in {A : Mem} {v x b : Int} (h : 0 < pX A v x b) : x < A 0 3 ∧ (0 ≤ b - v % 21 - bP A (v / 21) (A 5 x) ∧ b - v % 21 - bP A (v / 21) (A 5 x) < 3) ∧ 0 < aP A (v / 21) (A 5 x) (b - v % 21 - bP A (v / 21) (A 5 x)) := by
  unfold pX pt at h
  by_cases c : x < A 0 3
  · rw [if_pos c] at h
    by_cases c2 : 0 ≤ b - v % 21 - bP A (v / 21) (A 5 x) ∧ b - v % 21 - bP A (v / 21) (A 5 x) < 3
    · rw [if_pos c2] at h; exact ⟨c, c2, h⟩
    · rw [if_neg c2] at h; omega
  · rw [if_neg c] at h; omega
theorem lp_ft2 (d : Nat) (A u : Mem) (hv : VB A) (v x : Int) (hk : vK A v) (hx : 0 ≤ x ∧ x < A 0 3) (hg : gl1 A u (v / 21) x) (hop : 0 ≤ opn A (v / 21) x ∧ opn A (v / 21) x < 3) (hb : 0 ≤ bP A (v / 21) (A 5 x) ∧ bP A (v / 21) (A 5 x) ≤ 54) (Q : Int → Mem → Prop) (hN : ∀ b, 0 ≤ b ∧ b < 91 → u 18 (4 * b + x) < pX A v x b → Q 0 u) (hQ : (∀ i, opn A (v / 21) x ≤ i ∧ i < 3 → aP A (v / 21) (A 5 x) i ≤ u 18 (4 * (v % 21 + bP A (v / 21) (A 5 x) + i) + x)) → EV (d + 1) o_Guess_fits 78 [] [14, v / 21, v % 21, x, 4 * (v / 21) + x, 3] u Q) : ∀ (n : Nat) (i : Int), opn A (v / 21) x ≤ i → i + n = 3 → (∀ j, opn A (v / 21) x ≤ j ∧ j < i → aP A (v / 21) (A 5 x) j ≤ u 18 (4 * (v % 21 + bP A (v / 21) (A 5 x) + j) + x)) → EV (d + 1) o_Guess_fits 23 [] [14, v / 21, v % 21, x, 4 * (v / 21) + x, i] u Q := by
  have h1 := hv.1
  unfold VC at h1
  have hk0 := hk.1
  have hk1 := hk.2.1
  obtain ⟨g1, g2⟩ := hg
  obtain ⟨g3, g4⟩ := g2 (by omega)
  intro n
  induction n with
  | zero =>
    intro i hi hn ha
    have ei : i = 3 := by omega
    subst ei
    have hq := hQ ha
    rw [e_Guess_fits_23]
    simp (disch := first | assumption | omega) only [rn, wk, al, wr_e, td_e, tm_e, mset_eq, mset_ne, if_pos, if_neg, Int.reduceAdd, Int.reduceSub, Int.reduceMul, Int.reduceNeg, Int.reduceLT, Int.reduceLE, Int.reduceEq, Int.cast_ofNat_Int, eq_self, and_true, true_and, ite_self, true_or, or_true, false_or, or_false, and_false, false_and, not_true_eq_false, not_false_eq_true, if_true, if_false]
    exact hq
  | succ n ih =>
    intro i hi hn ha
    have a19 : u 19 ((4 * (v / 21) + x) * 3 + i) = aP A (v / 21) (A 5 x) i := by rw [show (4 * (v / 21) + x) * 3 + i = 12 * (v / 21) + 3 * x + i by omega]; exact g4 i (by omega)
    have hp := pX_at (A := A) (v := v) (x := x) (i := i) hx.2 (by omega)
    rw [e_Guess_fits_23]
    by_cases c : u 18 (4 * (v % 21 + bP A (v / 21) (A 5 x) + i) + x) < aP A (v / 21) (A 5 x) i
    · have hq := hN (v % 21 + bP A (v / 21) (A 5 x) + i) (by omega) (by rw [hp]; exact c)
      simp (disch := first | assumption | omega) only [rn, wk, al, wr_e, td_e, tm_e, mset_eq, mset_ne, if_pos, if_neg, Int.reduceAdd, Int.reduceSub, Int.reduceMul, Int.reduceNeg, Int.reduceLT, Int.reduceLE, Int.reduceEq, Int.cast_ofNat_Int, eq_self, and_true, true_and, ite_self, true_or, or_true, false_or, or_false, and_false, false_and, not_true_eq_false, not_false_eq_true, if_true, if_false, e_Guess_fits_0, e_Guess_fits_72, e_Guess_fits_78, e_Guess_fits_84, a19, g3, q_cellOf]
      exact hq
    · have hx2 := ih (i + 1) (by omega) (by omega) (fun j hj => by
        by_cases e : j = i
        · rw [e]; omega
        · exact ha j (by omega))
      simp (disch := first | assumption | omega) only [rn, wk, al, wr_e, td_e, tm_e, mset_eq, mset_ne, if_pos, if_neg, Int.reduceAdd, Int.reduceSub, Int.reduceMul, Int.reduceNeg, Int.reduceLT, Int.reduceLE, Int.reduceEq, Int.cast_ofNat_Int, eq_self, and_true, true_and, ite_self, true_or, or_true, false_or, or_false, and_false, false_and, not_true_eq_false, not_false_eq_true, if_true, if_false, e_Guess_fits_0, e_Guess_fits_72, e_Guess_fits_84, a19, g3, q_cellOf]
      exact hx2
theorem lp_ft1 (d : Nat) (A u : Mem) (hv : VB A) (hP : PG A u) (v : Int) (hk : vK A v) (hL : ∀ x b, rng x b → 0 ≤ u 18 (4 * b + x)) (Q : Int → Mem → Prop) (hN : ∀ x b, rng x b → u 18 (4 * b + x) < pX A v x b → Q 0 u) (hQ : (∀ x b, rng x b → pX A v x b ≤ u 18 (4 * b + x)) → Q 1 u) : ∀ (n : Nat) (x : Int) (z1 z2 : Int), 0 ≤ x → x + n = 4 → (∀ x' b, (0 ≤ x' ∧ x' < x) → (0 ≤ b ∧ b < 91) → pX A v x' b ≤ u 18 (4 * b + x')) → EV (d + 1) o_Guess_fits 2 [] [14, v / 21, v % 21, x, z1, z2] u Q := by
  have h1 := hv.1
  unfold VC at h1
  have hk0 := hk.1
  have hk1 := hk.2.1
  have hq := hk.2.2
  intro n
  induction n with
  | zero =>
    intro x z1 z2 h0 hx ha
    have ex : x = 4 := by omega
    subst ex
    have hq := hQ (fun x b hr => ha x b hr.1 hr.2)
    rw [e_Guess_fits_2]
    simp (disch := first | assumption | omega) only [rn, wk, al, wr_e, td_e, tm_e, mset_eq, mset_ne, if_pos, if_neg, Int.reduceAdd, Int.reduceSub, Int.reduceMul, Int.reduceNeg, Int.reduceLT, Int.reduceLE, Int.reduceEq, Int.cast_ofNat_Int, eq_self, and_true, true_and, ite_self, true_or, or_true, false_or, or_false, and_false, false_and, not_true_eq_false, not_false_eq_true, if_true, if_false, e_Guess_fits_0, e_Guess_fits_72, e_Guess_fits_78, e_Guess_fits_84]
    exact hq
  | succ n ih =>
    intro x z1 z2 h0 hx ha
    have e4 : v / 21 * 4 + x = 4 * (v / 21) + x := by omega
    have hgd := hP (v / 21) x (by omega) (by omega)
    have next : (∀ b, 0 ≤ b ∧ b < 91 → pX A v x b ≤ u 18 (4 * b + x)) → ∀ z1 z2, EV (d + 1) o_Guess_fits 2 [] [14, v / 21, v % 21, x + 1, z1, z2] u Q := fun hh z1 z2 => ih (x + 1) z1 z2 (by omega) (by omega) (fun x' b hx' hb => by
      by_cases e : x' = x
      · rw [e]; exact hh b hb
      · exact ha x' b (by omega) hb)
    have nothing : (∀ b, 0 ≤ b ∧ b < 91 → pX A v x b = 0) → u 21 (4 * (v / 21) + x) = -1 → EV (d + 1) o_Guess_fits 2 [] [14, v / 21, v % 21, x, z1, z2] u Q := by
      intro k2 k3
      have hx2 := next (fun b hb => by rw [k2 b hb]; exact hL x b ⟨by omega, hb⟩) (4 * (v / 21) + x) (-1)
      rw [e_Guess_fits_2]
      simp (disch := first | assumption | omega) only [rn, wk, al, wr_e, td_e, tm_e, mset_eq, mset_ne, if_pos, if_neg, Int.reduceAdd, Int.reduceSub, Int.reduceMul, Int.reduceNeg, Int.reduceLT, Int.reduceLE, Int.reduceEq, Int.cast_ofNat_Int, eq_self, and_true, true_and, ite_self, true_or, or_true, false_or, or_false, and_false, false_and, not_true_eq_false, not_false_eq_true, if_true, if_false, e4, k3]
      rw [e_Guess_fits_23]
      simp (disch := first | assumption | omega) only [rn, wk, al, wr_e, td_e, tm_e, mset_eq, mset_ne, if_pos, if_neg, Int.reduceAdd, Int.reduceSub, Int.reduceMul, Int.reduceNeg, Int.reduceLT, Int.reduceLE, Int.reduceEq, Int.cast_ofNat_Int, eq_self, and_true, true_and, ite_self, true_or, or_true, false_or, or_false, and_false, false_and, not_true_eq_false, not_false_eq_true, if_true, if_false, e_Guess_fits_0, e_Guess_fits_72, e_Guess_fits_78, e_Guess_fits_84]
      exact hx2
    by_cases cx : x < A 0 3
    · have hg := hgd.1 ⟨hq, cx⟩
      rcases opn_f A (v / 21) x with ⟨o1, o2, o3, o4⟩ | ⟨o1, o2⟩
      · refine nothing (fun b hb => ?_) (by rw [hg.1, o1])
        have := pX_ok hv hk (x := x) (b := b) (by omega)
        by_cases c : 0 < pX A v x b
        · obtain ⟨p1, p2, p3⟩ := pX_in c
          generalize b - v % 21 - bP A (v / 21) (A 5 x) = i at p2 p3
          obtain rfl | rfl | rfl : i = 0 ∨ i = 1 ∨ i = 2 := by omega
          · exact absurd p3 o2
          · exact absurd p3 o3
          · exact absurd p3 o4
        · omega
      · have hbP := opn_bP hv hq ⟨h0, cx⟩ o1.1
        rw [e_Guess_fits_2]
        simp (disch := first | assumption | omega) only [rn, wk, al, wr_e, td_e, tm_e, mset_eq, mset_ne, if_pos, if_neg, Int.reduceAdd, Int.reduceSub, Int.reduceMul, Int.reduceNeg, Int.reduceLT, Int.reduceLE, Int.reduceEq, Int.cast_ofNat_Int, eq_self, and_true, true_and, ite_self, true_or, or_true, false_or, or_false, and_false, false_and, not_true_eq_false, not_false_eq_true, if_true, if_false, e4, hg.1]
        refine lp_ft2 d A u hv v x hk ⟨h0, cx⟩ hg o1 hbP Q (fun b hb hlt => hN x b ⟨by omega, hb⟩ hlt) (fun hall => ?_) (3 - opn A (v / 21) x).toNat (opn A (v / 21) x) (by omega) (by omega) (fun j hj => by omega)
        have hx2 := next (fun b hb => by
          have h0' := pX_ok hv hk (x := x) (b := b) (by omega)
          by_cases c : 0 < pX A v x b
          · obtain ⟨p1, p2, p3⟩ := pX_in c
            have hi : opn A (v / 21) x ≤ b - v % 21 - bP A (v / 21) (A 5 x) := by
              by_cases c2 : opn A (v / 21) x ≤ b - v % 21 - bP A (v / 21) (A 5 x)
              · exact c2
              · exact absurd p3 (o2 _ (by omega))
            have := hall (b - v % 21 - bP A (v / 21) (A 5 x)) (by omega)
            have e := pX_at (A := A) (v := v) (x := x) (i := b - v % 21 - bP A (v / 21) (A 5 x)) cx p2
            rw [show v % 21 + bP A (v / 21) (A 5 x) + (b - v % 21 - bP A (v / 21) (A 5 x)) = b by omega] at e this
            rw [e]; exact this
          · have := hL x b ⟨by omega, hb⟩; omega) (4 * (v / 21) + x) 3
        simp (disch := first | assumption | omega) only [rn, wk, al, wr_e, td_e, tm_e, mset_eq, mset_ne, if_pos, if_neg, Int.reduceAdd, Int.reduceSub, Int.reduceMul, Int.reduceNeg, Int.reduceLT, Int.reduceLE, Int.reduceEq, Int.cast_ofNat_Int, eq_self, and_true, true_and, ite_self, true_or, or_true, false_or, or_false, and_false, false_and, not_true_eq_false, not_false_eq_true, if_true, if_false, e_Guess_fits_0, e_Guess_fits_72, e_Guess_fits_78, e_Guess_fits_84]
        exact hx2
    · have hn := hgd.2 (fun h => cx h.2)
      refine nothing (fun b hb => ?_) hn
      unfold pX; rw [if_neg cx]
theorem q_fits (d : Nat) (A u : Mem) (hv : VB A) (hP : PG A u) (v : Int) (hk : vK A v) (hL : ∀ x b, rng x b → 0 ≤ u 18 (4 * b + x)) : (sem (d + 2) 150 [14, v / 21, v % 21] u = some (1, u) ∧ ∀ x b, rng x b → pX A v x b ≤ u 18 (4 * b + x)) ∨ (sem (d + 2) 150 [14, v / 21, v % 21] u = some (0, u) ∧ ∃ x b, rng x b ∧ u 18 (4 * b + x) < pX A v x b) := by
  have hcv : CV (d + 2) 150 [14, v / 21, v % 21] u fun r t => t = u ∧ ((r = 1 ∧ ∀ x b, rng x b → pX A v x b ≤ u 18 (4 * b + x)) ∨ (r = 0 ∧ ∃ x b, rng x b ∧ u 18 (4 * b + x) < pX A v x b)) := by
    apply c_Guess_fits
    have hx := lp_ft1 d A u hv hP v hk hL (fun r t => t = u ∧ ((r = 1 ∧ ∀ x b, rng x b → pX A v x b ≤ u 18 (4 * b + x)) ∨ (r = 0 ∧ ∃ x b, rng x b ∧ u 18 (4 * b + x) < pX A v x b))) (fun x b hr h => ⟨rfl, Or.inr ⟨rfl, x, b, hr, h⟩⟩) (fun h => ⟨rfl, Or.inl ⟨rfl, h⟩⟩) 4 0 0 0 (by omega) (by omega) (fun x' b hx' => by omega)
    simp (disch := first | assumption | omega) only [rn, wk, al, wr_e, td_e, tm_e, mset_eq, mset_ne, if_pos, if_neg, Int.reduceAdd, Int.reduceSub, Int.reduceMul, Int.reduceNeg, Int.reduceLT, Int.reduceLE, Int.reduceEq, Int.cast_ofNat_Int, eq_self, and_true, true_and, ite_self, true_or, or_true, false_or, or_false, and_false, false_and, not_true_eq_false, not_false_eq_true, if_true, if_false, e_Guess_fits_0, e_Guess_fits_72, e_Guess_fits_78, e_Guess_fits_84]
    exact hx
  obtain ⟨r, t, e, rfl, h | h⟩ := hcv
  · left; exact ⟨by rw [e, h.1], h.2⟩
  · right; exact ⟨by rw [e, h.1], h.2⟩
