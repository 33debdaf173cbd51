/-! ===== H2: the reference finds slips ===== -/
theorem cp_nz (f : Int → Int) : cpos f + cneg f = nzz (fun x b => f (91 * x + b)) := by
  unfold cpos cneg nzz
  rw [← sg_add, show (364 : Nat) = 91 * 4 from rfl, sg_blk (fun k => p1_ (f k) + n1_ (f k)) 91 4]
  apply sg_congr; intro x _ _
  apply sg_congr; intro b _ _
  show p1_ (f (91 * x + b)) + n1_ (f (91 * x + b)) = z1 (f (91 * x + b))
  unfold p1_ n1_ z1
  repeat' split
  all_goals omega
theorem q_putsOf (d : Nat) (A s : Mem) (h : RB A s) (hl : LF s) (v by_ : Int) (hk : vK A v) (hby : by_ = 1 ∨ by_ = -1) (hsb : ∀ j, 0 ≤ j ∧ j < 364 → -800000 ≤ s 147 j ∧ s 147 j ≤ 800000) : CV (d + 5) 324 [137, v, by_] s fun _ u => Fl s u ∧ LF u ∧ ∀ x b, 0 ≤ x ∧ x < 4 → 0 ≤ b ∧ b < 91 → u 147 (91 * x + b) = s 147 (91 * x + b) + by_ * pX A v x b := by
  obtain ⟨k0, k1, k2, k3, k4, k5⟩ := hk
  have e1 : v / 21 / 3 = v / 63 := by omega
  have e2 : v / 21 % 3 = v % 63 / 21 := by omega
  rw [e1] at k4 k5
  rw [e2] at k5
  have hq := q_puts d A s h hl (v / 63) (v % 63 / 21) (v % 21) by_ (by omega) (by omega) (by omega) hby hsb
  rw [show 63 * (v / 63) + 21 * (v % 63 / 21) + v % 21 = v by omega] at hq
  apply c_R_putsOf
  simp (disch := first | assumption | omega) only [rn, wk, al, wr_e, td_e, tm_e, mset_eq, mset_ne, if_pos, if_neg, Int.reduceAdd, Int.reduceSub, Int.reduceMul, Int.reduceNeg, Int.reduceLT, Int.reduceLE, Int.reduceEq, Int.cast_ofNat_Int, eq_self, and_true, true_and, ite_self, true_or, or_true, false_or, or_false, and_false, false_and, not_true_eq_false, not_false_eq_true, if_true, if_false, e_R_putsOf_0]
  refine EV_call (CV_mono hq ?_)
  rintro r u ⟨u1, u2, u3⟩
  simp (disch := first | assumption | omega) only [rn, wk, al, wr_e, td_e, tm_e, mset_eq, mset_ne, if_pos, if_neg, Int.reduceAdd, Int.reduceSub, Int.reduceMul, Int.reduceNeg, Int.reduceLT, Int.reduceLE, Int.reduceEq, Int.cast_ofNat_Int, eq_self, and_true, true_and, ite_self, true_or, or_true, false_or, or_false, and_false, false_and, not_true_eq_false, not_false_eq_true, if_true, if_false, e_R_putsOf_0]
  refine ⟨u1, u2, fun x b hx hb => ?_⟩
  rw [u3 x b hx hb]
  unfold pX
  by_cases c : x < A 0 3
  · rw [if_pos c, if_pos c]
  · rw [if_neg c, if_neg c, Int.mul_zero]
theorem q_isCall1 (d : Nat) (A u : Mem) (h : RB A u) (v : Int) (hk : vK A v) : sem (d + 3) 326 [137, v] u = some (1, u) := by
  obtain ⟨k0, k1, k2, k3, k4, k5⟩ := hk
  have e1 : v / 21 / 3 = v / 63 := by omega
  have e2 : v / 21 % 3 = v % 63 / 21 := by omega
  rw [e1] at k4 k5
  rw [e2] at k5
  obtain ⟨hv, hr, -, hl, -⟩ := h
  have h1 := hv.1
  unfold VC at h1
  unfold RC at hr
  have hl1 := (hl (v / 63) (by omega)).2.1
  have q := q_isCry d (v / 63) (v % 63 / 21) u (by omega)
  rw [if_pos (by omega)] at q
  apply CV_eq; apply c_R_isCall
  simp (disch := first | assumption | omega) only [rn, wk, al, wr_e, td_e, tm_e, mset_eq, mset_ne, if_pos, if_neg, Int.reduceAdd, Int.reduceSub, Int.reduceMul, Int.reduceNeg, Int.reduceLT, Int.reduceLE, Int.reduceEq, Int.cast_ofNat_Int, eq_self, and_true, true_and, ite_self, true_or, or_true, false_or, or_false, and_false, false_and, not_true_eq_false, not_false_eq_true, if_true, if_false, e_R_isCall_0, q]
theorem q_isCall0 (d : Nat) (A u : Mem) (h : RB A u) (v : Int) (h0 : 0 ≤ v ∧ v < 315) (hk : ¬ vQ A (v / 21)) : sem (d + 3) 326 [137, v] u = some (0, u) := by
  obtain ⟨hv, hr, -, hl, -⟩ := h
  have h1 := hv.1
  unfold VC at h1
  unfold RC at hr
  have e1 : v / 21 / 3 = v / 63 := by omega
  have e2 : v / 21 % 3 = v % 63 / 21 := by omega
  have q := q_isCry d (v / 63) (v % 63 / 21) u (by omega)
  rw [if_neg (fun hh => hk ⟨by omega, by omega, by omega, by
    have hl1 := (hl (v / 63) (by omega)).2.1
    rw [e1, e2]; omega⟩)] at q
  apply CV_eq; apply c_R_isCall
  simp (disch := first | assumption | omega) only [rn, wk, al, wr_e, td_e, tm_e, mset_eq, mset_ne, if_pos, if_neg, Int.reduceAdd, Int.reduceSub, Int.reduceMul, Int.reduceNeg, Int.reduceLT, Int.reduceLE, Int.reduceEq, Int.cast_ofNat_Int, eq_self, and_true, true_and, ite_self, true_or, or_true, false_or, or_false, and_false, false_and, not_true_eq_false, not_false_eq_true, if_true, if_false, e_R_isCall_0, q]
theorem brx_z {A : Mem} {q x : Int} (h : brx A q x = 0) : ¬ 0 < aP A q (A 5 x) 0 ∧ ¬ 0 < aP A q (A 5 x) 1 ∧ ¬ 0 < aP A q (A 5 x) 2 := by
  unfold brx at h
  have hp : ∀ v, 0 ≤ p1_ v ∧ (0 < v → p1_ v = 1) := fun v => by unfold p1_; split <;> omega
  have a := hp (aP A q (A 5 x) 0)
  have b := hp (aP A q (A 5 x) 1)
  have c := hp (aP A q (A 5 x) 2)
  refine ⟨fun h1 => ?_, fun h1 => ?_, fun h1 => ?_⟩
  · have := a.2 h1; omega
  · have := b.2 h1; omega
  · have := c.2 h1; omega
theorem brx_nz {A : Mem} {q x : Int} (h : ¬ brx A q x = 0) : 0 < aP A q (A 5 x) 0 ∨ 0 < aP A q (A 5 x) 1 ∨ 0 < aP A q (A 5 x) 2 := by
  by_cases c0 : 0 < aP A q (A 5 x) 0
  · exact Or.inl c0
  · by_cases c1 : 0 < aP A q (A 5 x) 1
    · exact Or.inr (Or.inl c1)
    · by_cases c2 : 0 < aP A q (A 5 x) 2
      · exact Or.inr (Or.inr c2)
      · exfalso; apply h; unfold brx p1_; rw [if_neg c0, if_neg c1, if_neg c2]; rfl
theorem q_isLoud (d : Nat) (A u : Mem) (h : RB A u) (v : Int) (hk : vK A v) : sem (d + 4) 334 [137, v] u = some (if 0 < bq A (v / 21) then 1 else 0, u) := by
  have hk' := hk
  obtain ⟨k0, k1, k2, k3, k4, k5⟩ := hk'
  have e1 : v / 21 / 3 = v / 63 := by omega
  have e2 : v / 21 % 3 = v % 63 / 21 := by omega
  rw [e1] at k4 k5
  rw [e2] at k5
  have hv := h.1
  have hr := h.2.1
  have hs := h.2.2.1
  have h1 := hv.1
  unfold VC at h1
  unfold RC at hr
  have lp : ∀ (n : Nat) (x z : Int), 0 ≤ x → x + n = A 0 3 → ∀ Q : Int → Mem → Prop, Q (if 0 < sg (brx A (v / 21)) x n then 1 else 0) u → EV (d + 3) o_R_isLoud 2 [] [137, v, x, z] u Q := by
    intro n
    induction n with
    | zero =>
      intro x z h0 hx Q hq
      rw [if_neg (by show ¬ (0 : Int) < 0; omega)] at hq
      rw [e_R_isLoud_2]
      simp (disch := first | assumption | omega) only [rn, wk, al, wr_e, td_e, tm_e, mset_eq, mset_ne, if_pos, if_neg, Int.reduceAdd, Int.reduceSub, Int.reduceMul, Int.reduceNeg, Int.reduceLT, Int.reduceLE, Int.reduceEq, Int.cast_ofNat_Int, eq_self, and_true, true_and, ite_self, true_or, or_true, false_or, or_false, and_false, false_and, not_true_eq_false, not_false_eq_true, if_true, if_false, e_R_isLoud_0, e_R_isLoud_49, e_R_isLoud_55, e_R_isLoud_61]
      exact hq
    | succ n ih =>
      intro x z h0 hx Q hq
      have es : u 138 (50 + x) = A 5 x := hs x (by omega)
      have hp := hv.2.1 x (by omega)
      have row : ∀ i, 0 ≤ i ∧ i < 3 → sem (d + 3) 303 [137, v / 63, v % 63 / 21, i, A 5 x] u = some (aP A (v / 21) (A 5 x) i, u) := fun i hi => by
        have := q_loudAt d A u h (v / 63) (v % 63 / 21) i (A 5 x) (by omega) (by omega) hi hp
        rw [show 3 * (v / 63) + v % 63 / 21 = v / 21 by omega] at this
        exact this
      have r0 := row 0 (by omega)
      have r1 := row 1 (by omega)
      have r2 := row 2 (by omega)
      have bb := brx_b A (v / 21) x
      have sb := sg_bd (f := brx A (v / 21)) (m := 3) n (x + 1) (fun i _ _ => brx_b A (v / 21) i)
      have es2 : sg (brx A (v / 21)) x (n + 1) = brx A (v / 21) x + sg (brx A (v / 21)) (x + 1) n := rfl
      rw [es2] at hq
      rw [e_R_isLoud_2]
      simp (disch := first | assumption | omega) only [rn, wk, al, wr_e, td_e, tm_e, mset_eq, mset_ne, if_pos, if_neg, Int.reduceAdd, Int.reduceSub, Int.reduceMul, Int.reduceNeg, Int.reduceLT, Int.reduceLE, Int.reduceEq, Int.cast_ofNat_Int, eq_self, and_true, true_and, ite_self, true_or, or_true, false_or, or_false, and_false, false_and, not_true_eq_false, not_false_eq_true, if_true, if_false, es]
      rw [e_R_isLoud_14]
      by_cases cz : brx A (v / 21) x = 0
      · obtain ⟨z0, z1, z2⟩ := brx_z cz
        rw [cz, Int.zero_add] at hq
        have hx2 := ih (x + 1) 3 (by omega) (by omega) Q hq
        simp (disch := first | assumption | omega) only [rn, wk, al, wr_e, td_e, tm_e, mset_eq, mset_ne, if_pos, if_neg, Int.reduceAdd, Int.reduceSub, Int.reduceMul, Int.reduceNeg, Int.reduceLT, Int.reduceLE, Int.reduceEq, Int.cast_ofNat_Int, eq_self, and_true, true_and, ite_self, true_or, or_true, false_or, or_false, and_false, false_and, not_true_eq_false, not_false_eq_true, if_true, if_false, e_R_isLoud_0, e_R_isLoud_49, e_R_isLoud_55, e_R_isLoud_61, es, r0]
        rw [e_R_isLoud_14]
        simp (disch := first | assumption | omega) only [rn, wk, al, wr_e, td_e, tm_e, mset_eq, mset_ne, if_pos, if_neg, Int.reduceAdd, Int.reduceSub, Int.reduceMul, Int.reduceNeg, Int.reduceLT, Int.reduceLE, Int.reduceEq, Int.cast_ofNat_Int, eq_self, and_true, true_and, ite_self, true_or, or_true, false_or, or_false, and_false, false_and, not_true_eq_false, not_false_eq_true, if_true, if_false, e_R_isLoud_0, e_R_isLoud_49, e_R_isLoud_55, e_R_isLoud_61, es, r1]
        rw [e_R_isLoud_14]
        simp (disch := first | assumption | omega) only [rn, wk, al, wr_e, td_e, tm_e, mset_eq, mset_ne, if_pos, if_neg, Int.reduceAdd, Int.reduceSub, Int.reduceMul, Int.reduceNeg, Int.reduceLT, Int.reduceLE, Int.reduceEq, Int.cast_ofNat_Int, eq_self, and_true, true_and, ite_self, true_or, or_true, false_or, or_false, and_false, false_and, not_true_eq_false, not_false_eq_true, if_true, if_false, e_R_isLoud_0, e_R_isLoud_49, e_R_isLoud_55, e_R_isLoud_61, es, r2]
        rw [e_R_isLoud_14]
        simp (disch := first | assumption | omega) only [rn, wk, al, wr_e, td_e, tm_e, mset_eq, mset_ne, if_pos, if_neg, Int.reduceAdd, Int.reduceSub, Int.reduceMul, Int.reduceNeg, Int.reduceLT, Int.reduceLE, Int.reduceEq, Int.cast_ofNat_Int, eq_self, and_true, true_and, ite_self, true_or, or_true, false_or, or_false, and_false, false_and, not_true_eq_false, not_false_eq_true, if_true, if_false, e_R_isLoud_0, e_R_isLoud_49, e_R_isLoud_55, e_R_isLoud_61]
        exact hx2
      · rw [if_pos (by omega)] at hq
        by_cases z0 : 0 < aP A (v / 21) (A 5 x) 0
        · simp (disch := first | assumption | omega) only [rn, wk, al, wr_e, td_e, tm_e, mset_eq, mset_ne, if_pos, if_neg, Int.reduceAdd, Int.reduceSub, Int.reduceMul, Int.reduceNeg, Int.reduceLT, Int.reduceLE, Int.reduceEq, Int.cast_ofNat_Int, eq_self, and_true, true_and, ite_self, true_or, or_true, false_or, or_false, and_false, false_and, not_true_eq_false, not_false_eq_true, if_true, if_false, e_R_isLoud_0, e_R_isLoud_49, e_R_isLoud_55, e_R_isLoud_61, es, r0]
          exact hq
        · simp (disch := first | assumption | omega) only [rn, wk, al, wr_e, td_e, tm_e, mset_eq, mset_ne, if_pos, if_neg, Int.reduceAdd, Int.reduceSub, Int.reduceMul, Int.reduceNeg, Int.reduceLT, Int.reduceLE, Int.reduceEq, Int.cast_ofNat_Int, eq_self, and_true, true_and, ite_self, true_or, or_true, false_or, or_false, and_false, false_and, not_true_eq_false, not_false_eq_true, if_true, if_false, e_R_isLoud_0, e_R_isLoud_49, e_R_isLoud_55, e_R_isLoud_61, es, r0]
          rw [e_R_isLoud_14]
          by_cases z1 : 0 < aP A (v / 21) (A 5 x) 1
          · simp (disch := first | assumption | omega) only [rn, wk, al, wr_e, td_e, tm_e, mset_eq, mset_ne, if_pos, if_neg, Int.reduceAdd, Int.reduceSub, Int.reduceMul, Int.reduceNeg, Int.reduceLT, Int.reduceLE, Int.reduceEq, Int.cast_ofNat_Int, eq_self, and_true, true_and, ite_self, true_or, or_true, false_or, or_false, and_false, false_and, not_true_eq_false, not_false_eq_true, if_true, if_false, e_R_isLoud_0, e_R_isLoud_49, e_R_isLoud_55, e_R_isLoud_61, es, r1]
            exact hq
          · have z2 : 0 < aP A (v / 21) (A 5 x) 2 := by
              rcases brx_nz cz with h | h | h
              · exact absurd h z0
              · exact absurd h z1
              · exact h
            simp (disch := first | assumption | omega) only [rn, wk, al, wr_e, td_e, tm_e, mset_eq, mset_ne, if_pos, if_neg, Int.reduceAdd, Int.reduceSub, Int.reduceMul, Int.reduceNeg, Int.reduceLT, Int.reduceLE, Int.reduceEq, Int.cast_ofNat_Int, eq_self, and_true, true_and, ite_self, true_or, or_true, false_or, or_false, and_false, false_and, not_true_eq_false, not_false_eq_true, if_true, if_false, e_R_isLoud_0, e_R_isLoud_49, e_R_isLoud_55, e_R_isLoud_61, es, r1]
            rw [e_R_isLoud_14]
            simp (disch := first | assumption | omega) only [rn, wk, al, wr_e, td_e, tm_e, mset_eq, mset_ne, if_pos, if_neg, Int.reduceAdd, Int.reduceSub, Int.reduceMul, Int.reduceNeg, Int.reduceLT, Int.reduceLE, Int.reduceEq, Int.cast_ofNat_Int, eq_self, and_true, true_and, ite_self, true_or, or_true, false_or, or_false, and_false, false_and, not_true_eq_false, not_false_eq_true, if_true, if_false, e_R_isLoud_0, e_R_isLoud_49, e_R_isLoud_55, e_R_isLoud_61, es, r2]
            exact hq
  apply CV_eq; apply c_R_isLoud
  have hx := lp (A 0 3).toNat 0 0 (by omega) (by omega) (fun r t => r = (if 0 < bq A (v / 21) then 1 else 0) ∧ t = u) ⟨by rw [bq_v hk.2.2], rfl⟩
  simp (disch := first | assumption | omega) only [rn, wk, al, wr_e, td_e, tm_e, mset_eq, mset_ne, if_pos, if_neg, Int.reduceAdd, Int.reduceSub, Int.reduceMul, Int.reduceNeg, Int.reduceLT, Int.reduceLE, Int.reduceEq, Int.cast_ofNat_Int, eq_self, and_true, true_and, ite_self, true_or, or_true, false_or, or_false, and_false, false_and, not_true_eq_false, not_false_eq_true, if_true, if_false, e_R_isLoud_0, e_R_isLoud_49, e_R_isLoud_55, e_R_isLoud_61]
  exact hx
/-- how the reference holds what was best -/
def rR (st : Bst) (u : Mem) : Prop := u 137 37 = st.1 ∧ u 137 38 = st.2.1 ∧ u 137 39 = st.2.2.1 ∧ u 137 40 = st.2.2.2
def Frs (s u : Mem) : Prop := ∀ c i, c ≠ 147 → c ≠ 146 → ¬ (c = 137 ∧ (i = 26 ∨ i = 27 ∨ (37 ≤ i ∧ i ≤ 40))) → u c i = s c i
/-- the reference in the midst of it -/
def RJ (A s u : Mem) (L : Int → Int → Int) : Prop := Frs s u ∧ RB A u ∧ LF u ∧ ∀ x b, 0 ≤ x ∧ x < 4 → 0 ≤ b ∧ b < 91 → u 147 (91 * x + b) = L x b
theorem q_slipsBy (d : Nat) (A s u : Mem) (L : Int → Int → Int) (hJ : RJ A s u L) (st : Bst) (hs : 0 ≤ st.1 ∧ st.1 ≤ 1000000) (hR : rR st u) (c o t : Int) : CV (d + 1) 333 [137, c, o, t] u fun _ w => RJ A s w L ∧ rR (sUp st (nzz L) c o t) w := by
  obtain ⟨j1, j2, j3, j4⟩ := hJ
  obtain ⟨r1, r2, r3, r4⟩ := hR
  have hn := nzz_b L
  have hp := cpos_b (u 147)
  have hg := cneg_b (u 147)
  have en : u 137 26 + u 137 27 = nzz L := by
    rw [j3.1, j3.2, cp_nz]
    exact nzz_congr j4
  have l1 := j3.1
  have l2 := j3.2
  apply c_R_slipsBy
  by_cases cu : nzz L < st.1
  · have hpost : RJ A s (mset (mset (mset (mset u 137 37 (nzz L)) 137 38 c) 137 39 o) 137 40 t) L ∧ rR (sUp st (nzz L) c o t) (mset (mset (mset (mset u 137 37 (nzz L)) 137 38 c) 137 39 o) 137 40 t) := by
      have e147 : mset (mset (mset (mset u 137 37 (nzz L)) 137 38 c) 137 39 o) 137 40 t 147 = u 147 := by rw [mset_nc (by omega), mset_nc (by omega), mset_nc (by omega), mset_nc (by omega)]
      have e26 : mset (mset (mset (mset u 137 37 (nzz L)) 137 38 c) 137 39 o) 137 40 t 137 26 = u 137 26 := by rw [mset_ne (by omega), mset_ne (by omega), mset_ne (by omega), mset_ne (by omega)]
      have e27 : mset (mset (mset (mset u 137 37 (nzz L)) 137 38 c) 137 39 o) 137 40 t 137 27 = u 137 27 := by rw [mset_ne (by omega), mset_ne (by omega), mset_ne (by omega), mset_ne (by omega)]
      refine ⟨⟨fun c' i y1 y2 y3 => by rw [mset_ne (by omega), mset_ne (by omega), mset_ne (by omega), mset_ne (by omega)]; exact j1 c' i y1 y2 y3, RB_congr (by rw [mset_nc (by omega), mset_nc (by omega), mset_nc (by omega), mset_nc (by omega)]) (by rw [mset_nc (by omega), mset_nc (by omega), mset_nc (by omega), mset_nc (by omega)]) j2, ?_, fun x b hx hb => by rw [e147]; exact j4 x b hx hb⟩, ?_⟩
      · unfold LF; rw [e147, e26, e27]; exact j3
      · rw [sUp_y cu]
        exact ⟨by rw [mset_ne (by omega), mset_ne (by omega), mset_ne (by omega), mset_eq rfl rfl], by rw [mset_ne (by omega), mset_ne (by omega), mset_eq rfl rfl], by rw [mset_ne (by omega), mset_eq rfl rfl], by rw [mset_eq rfl rfl]⟩
    simp (disch := first | assumption | omega) only [rn, wk, al, wr_e, td_e, tm_e, mset_eq, mset_ne, if_pos, if_neg, Int.reduceAdd, Int.reduceSub, Int.reduceMul, Int.reduceNeg, Int.reduceLT, Int.reduceLE, Int.reduceEq, Int.cast_ofNat_Int, eq_self, and_true, true_and, ite_self, true_or, or_true, false_or, or_false, and_false, false_and, not_true_eq_false, not_false_eq_true, if_true, if_false, e_R_slipsBy_0, e_R_slipsBy_17, en, r1]
    exact hpost
  · have hpost : RJ A s u L ∧ rR (sUp st (nzz L) c o t) u := ⟨⟨j1, j2, j3, j4⟩, by rw [sUp_n (by omega)]; exact ⟨r1, r2, r3, r4⟩⟩
    simp (disch := first | assumption | omega) only [rn, wk, al, wr_e, td_e, tm_e, mset_eq, mset_ne, if_pos, if_neg, Int.reduceAdd, Int.reduceSub, Int.reduceMul, Int.reduceNeg, Int.reduceLT, Int.reduceLE, Int.reduceEq, Int.cast_ofNat_Int, eq_self, and_true, true_and, ite_self, true_or, or_true, false_or, or_false, and_false, false_and, not_true_eq_false, not_false_eq_true, if_true, if_false, e_R_slipsBy_0, e_R_slipsBy_17, en, r1]
    exact hpost
theorem RJ_puts (d : Nat) (A s u : Mem) (L : Int → Int → Int) (hL : ∀ x b, 0 ≤ x ∧ x < 4 → 0 ≤ b ∧ b < 91 → -2000 ≤ L x b ∧ L x b ≤ 2000) (hJ : RJ A s u L) (v by_ : Int) (hk : vK A v) (hby : by_ = 1 ∨ by_ = -1) : CV (d + 5) 324 [137, v, by_] u fun _ w => RJ A s w (fun x b => L x b + by_ * pX A v x b) ∧ ∀ st, rR st u → rR st w := by
  obtain ⟨j1, j2, j3, j4⟩ := hJ
  refine CV_mono (q_putsOf d A u j2 j3 v by_ hk hby (fun j hj => ?_)) ?_
  · have q := j4 (j / 91) (j % 91) (by omega) (by omega)
    rw [show 91 * (j / 91) + j % 91 = j by omega] at q
    have := hL (j / 91) (j % 91) (by omega) (by omega)
    rw [q]; omega
  · rintro r w ⟨w1, w2, w3⟩
    refine ⟨⟨fun c i y1 y2 y3 => by rw [w1 c i (by omega) (by omega)]; exact j1 c i y1 y2 y3, RB_congr (Fl_cell w1 (by omega) (by omega)) (Fl_cell w1 (by omega) (by omega)) j2, w2, fun x b hx hb => by rw [w3 x b hx hb, j4 x b hx hb]⟩, ?_⟩
    intro st ⟨r1, r2, r3, r4⟩
    exact ⟨by rw [w1 _ _ (by omega) (by omega)]; exact r1, by rw [w1 _ _ (by omega) (by omega)]; exact r2, by rw [w1 _ _ (by omega) (by omega)]; exact r3, by rw [w1 _ _ (by omega) (by omega)]; exact r4⟩
theorem RJ_eq {A s u : Mem} {L L' : Int → Int → Int} (h : ∀ x b, 0 ≤ x ∧ x < 4 → 0 ≤ b ∧ b < 91 → L x b = L' x b) (hJ : RJ A s u L) : RJ A s u L' := ⟨hJ.1, hJ.2.1, hJ.2.2.1, fun x b hx hb => by rw [hJ.2.2.2 x b hx hb, h x b hx hb]⟩
theorem lp_rs2 (d : Nat) (A s : Mem) (hv : VB A) (hr : ∀ j, 0 ≤ j ∧ j < 364 → 0 ≤ A 10 j ∧ A 10 j ≤ 999) (m a : Int) (hm : 1 < m) (ha : vK A a) (Q : Int → Mem → Prop) (E : Bst) (hQ : ∀ u, RJ A s u (fun x b => A 10 (4 * b + x) - pX A a x b) → rR E u → EV (d + 6) o_R_laysSlips 128 [] [137, m, a, 315] u Q) : ∀ (n : Nat) (b : Int) (st : Bst) (u : Mem), 0 ≤ b → b + n = 315 → (0 ≤ st.1 ∧ st.1 ≤ 400) → RJ A s u (fun x b => A 10 (4 * b + x) - pX A a x b) → rR st u → sF2 A a n b st = E → EV (d + 6) o_R_laysSlips 72 [] [137, m, a, b] u Q := by
  intro n
  induction n with
  | zero =>
    intro b st u h0 hb hs hJ hR he
    have eb : b = 315 := by omega
    subst eb
    have hq := hQ u hJ (by rw [← he]; exact hR)
    rw [e_R_laysSlips_72]
    simp (disch := first | assumption | omega) only [rn, wk, al, wr_e, td_e, tm_e, mset_eq, mset_ne, if_pos, if_neg, Int.reduceAdd, Int.reduceSub, Int.reduceMul, Int.reduceNeg, Int.reduceLT, Int.reduceLE, Int.reduceEq, Int.cast_ofNat_Int, eq_self, and_true, true_and, ite_self, true_or, or_true, false_or, or_false, and_false, false_and, not_true_eq_false, not_false_eq_true, if_true, if_false]
    exact hq
  | succ n ih =>
    intro b st u h0 hb hs hJ hR he
    have he' : sF2 A a n (b + 1) (if 0 < bq A (b / 21) then sUp st (n2 A a b) 2 a b else st) = E := he
    rw [e_R_laysSlips_72]
    by_cases cb : 0 < bq A (b / 21)
    · have hbk : vK A b := ⟨by omega, by omega, bq_p cb⟩
      rw [if_pos cb] at he'
      have q1 := q_isCall1 (d + 3) A u hJ.2.1 b hbk
      have q2 := q_isLoud (d + 2) A u hJ.2.1 b hbk
      rw [if_pos cb] at q2
      simp (disch := first | assumption | omega) only [rn, wk, al, wr_e, td_e, tm_e, mset_eq, mset_ne, if_pos, if_neg, Int.reduceAdd, Int.reduceSub, Int.reduceMul, Int.reduceNeg, Int.reduceLT, Int.reduceLE, Int.reduceEq, Int.cast_ofNat_Int, eq_self, and_true, true_and, ite_self, true_or, or_true, false_or, or_false, and_false, false_and, not_true_eq_false, not_false_eq_true, if_true, if_false, e_R_laysSlips_0, e_R_laysSlips_55, e_R_laysSlips_103, e_R_laysSlips_134, e_R_laysSlips_140, q1, q2]
      refine EV_call (CV_mono (RJ_puts (d + 1) A s u _ (fun x y hx hy => ?_) hJ b (-1) hbk (Or.inr rfl)) ?_)
      · have := hr (4 * y + x) (by omega)
        have := pX_ok hv ha (x := x) (b := y) hx.1
        show -2000 ≤ A 10 (4 * y + x) - pX A a x y ∧ A 10 (4 * y + x) - pX A a x y ≤ 2000
        omega
      rintro r w ⟨w1, w2⟩
      refine EV_call (CV_mono (q_slipsBy (d + 5) A s w _ w1 st (by omega) (w2 st hR) 2 a b) ?_)
      rintro r2 y ⟨y1, y5⟩
      have en : nzz (fun x b_1 => A 10 (4 * b_1 + x) - pX A a x b_1 + -1 * pX A b x b_1) = n2 A a b := nzz_congr (fun x y hx hy => by omega)
      have y5' : rR (sUp st (n2 A a b) 2 a b) y := by rw [← en]; exact y5
      refine EV_call (CV_mono (RJ_puts (d + 1) A s y _ (fun x y hx hy => ?_) y1 b 1 hbk (Or.inl rfl)) ?_)
      · have := hr (4 * y + x) (by omega)
        have := pX_ok hv ha (x := x) (b := y) hx.1
        have := pX_ok hv hbk (x := x) (b := y) hx.1
        show -2000 ≤ A 10 (4 * y + x) - pX A a x y + -1 * pX A b x y ∧ A 10 (4 * y + x) - pX A a x y + -1 * pX A b x y ≤ 2000
        omega
      rintro r3 z ⟨z1', z2⟩
      have zJ : RJ A s z (fun x b => A 10 (4 * b + x) - pX A a x b) := RJ_eq (fun x y hx hy => by show A 10 (4 * y + x) - pX A a x y + -1 * pX A b x y + 1 * pX A b x y = A 10 (4 * y + x) - pX A a x y; omega) z1'
      have hx2 := ih (b + 1) _ z (by omega) (by omega) (sUp_b (nzz_b _) hs) zJ (z2 _ y5') he'
      simp (disch := first | assumption | omega) only [rn, wk, al, wr_e, td_e, tm_e, mset_eq, mset_ne, if_pos, if_neg, Int.reduceAdd, Int.reduceSub, Int.reduceMul, Int.reduceNeg, Int.reduceLT, Int.reduceLE, Int.reduceEq, Int.cast_ofNat_Int, eq_self, and_true, true_and, ite_self, true_or, or_true, false_or, or_false, and_false, false_and, not_true_eq_false, not_false_eq_true, if_true, if_false, e_R_laysSlips_0, e_R_laysSlips_55, e_R_laysSlips_103, e_R_laysSlips_122, e_R_laysSlips_134, e_R_laysSlips_140]
      exact hx2
    · rw [if_neg cb] at he'
      have hx2 := ih (b + 1) st u (by omega) (by omega) hs hJ hR he'
      by_cases cv : vQ A (b / 21)
      · have hbk : vK A b := ⟨by omega, by omega, cv⟩
        have q1 := q_isCall1 (d + 3) A u hJ.2.1 b hbk
        have q2 := q_isLoud (d + 2) A u hJ.2.1 b hbk
        rw [if_neg cb] at q2
        simp (disch := first | assumption | omega) only [rn, wk, al, wr_e, td_e, tm_e, mset_eq, mset_ne, if_pos, if_neg, Int.reduceAdd, Int.reduceSub, Int.reduceMul, Int.reduceNeg, Int.reduceLT, Int.reduceLE, Int.reduceEq, Int.cast_ofNat_Int, eq_self, and_true, true_and, ite_self, true_or, or_true, false_or, or_false, and_false, false_and, not_true_eq_false, not_false_eq_true, if_true, if_false, e_R_laysSlips_0, e_R_laysSlips_55, e_R_laysSlips_103, e_R_laysSlips_122, e_R_laysSlips_134, e_R_laysSlips_140, q1, q2]
        exact hx2
      · have q1 := q_isCall0 (d + 3) A u hJ.2.1 b (by omega) cv
        simp (disch := first | assumption | omega) only [rn, wk, al, wr_e, td_e, tm_e, mset_eq, mset_ne, if_pos, if_neg, Int.reduceAdd, Int.reduceSub, Int.reduceMul, Int.reduceNeg, Int.reduceLT, Int.reduceLE, Int.reduceEq, Int.cast_ofNat_Int, eq_self, and_true, true_and, ite_self, true_or, or_true, false_or, or_false, and_false, false_and, not_true_eq_false, not_false_eq_true, if_true, if_false, e_R_laysSlips_0, e_R_laysSlips_55, e_R_laysSlips_103, e_R_laysSlips_122, e_R_laysSlips_134, e_R_laysSlips_140, q1]
        exact hx2
theorem lp_rs1 (d : Nat) (A s : Mem) (hv : VB A) (hr : ∀ j, 0 ≤ j ∧ j < 364 → 0 ≤ A 10 j ∧ A 10 j ≤ 999) (m : Int) (hm : 0 < m ∧ m ≤ 2) (Q : Int → Mem → Prop) (E : Bst) (hQ : ∀ u, RJ A s u (fun x b => A 10 (4 * b + x)) → rR E u → Q 0 u) : ∀ (n : Nat) (a : Int) (st : Bst) (u : Mem) (z : Int), 0 ≤ a → a + n = 315 → (0 ≤ st.1 ∧ st.1 ≤ 400) → RJ A s u (fun x b => A 10 (4 * b + x)) → rR st u → sF1 A m n a st = E → EV (d + 6) o_R_laysSlips 25 [] [137, m, a, z] u Q := by
  intro n
  induction n with
  | zero =>
    intro a st u z h0 ha hs hJ hR he
    have ea : a = 315 := by omega
    subst ea
    have hq := hQ u hJ (by rw [← he]; exact hR)
    rw [e_R_laysSlips_25]
    simp (disch := first | assumption | omega) only [rn, wk, al, wr_e, td_e, tm_e, mset_eq, mset_ne, if_pos, if_neg, Int.reduceAdd, Int.reduceSub, Int.reduceMul, Int.reduceNeg, Int.reduceLT, Int.reduceLE, Int.reduceEq, Int.cast_ofNat_Int, eq_self, and_true, true_and, ite_self, true_or, or_true, false_or, or_false, and_false, false_and, not_true_eq_false, not_false_eq_true, if_true, if_false, e_R_laysSlips_0, e_R_laysSlips_55, e_R_laysSlips_103, e_R_laysSlips_122, e_R_laysSlips_128, e_R_laysSlips_134, e_R_laysSlips_140]
    exact hq
  | succ n ih =>
    intro a st u z h0 ha hs hJ hR he
    have he' : sF1 A m n (a + 1) (if 0 < bq A (a / 21) then (if 1 < m then sF2 A a n (a + 1) (sUp st (n1 A a) 1 a (-1)) else sUp st (n1 A a) 1 a (-1)) else st) = E := he
    rw [e_R_laysSlips_25]
    by_cases cb : 0 < bq A (a / 21)
    · have hak : vK A a := ⟨by omega, by omega, bq_p cb⟩
      rw [if_pos cb] at he'
      have q1 := q_isCall1 (d + 3) A u hJ.2.1 a hak
      have q2 := q_isLoud (d + 2) A u hJ.2.1 a hak
      rw [if_pos cb] at q2
      simp (disch := first | assumption | omega) only [rn, wk, al, wr_e, td_e, tm_e, mset_eq, mset_ne, if_pos, if_neg, Int.reduceAdd, Int.reduceSub, Int.reduceMul, Int.reduceNeg, Int.reduceLT, Int.reduceLE, Int.reduceEq, Int.cast_ofNat_Int, eq_self, and_true, true_and, ite_self, true_or, or_true, false_or, or_false, and_false, false_and, not_true_eq_false, not_false_eq_true, if_true, if_false, e_R_laysSlips_0, e_R_laysSlips_55, e_R_laysSlips_103, e_R_laysSlips_122, e_R_laysSlips_134, e_R_laysSlips_140, q1, q2]
      refine EV_call (CV_mono (RJ_puts (d + 1) A s u _ (fun x y hx hy => ?_) hJ a (-1) hak (Or.inr rfl)) ?_)
      · have := hr (4 * y + x) (by omega)
        show -2000 ≤ A 10 (4 * y + x) ∧ A 10 (4 * y + x) ≤ 2000
        omega
      rintro r w ⟨w1, w2⟩
      refine EV_call (CV_mono (q_slipsBy (d + 5) A s w _ w1 st (by omega) (w2 st hR) 1 a (-1)) ?_)
      rintro r2 y ⟨y1, y5⟩
      have en : nzz (fun x b => A 10 (4 * b + x) + -1 * pX A a x b) = n1 A a := nzz_congr (fun x y hx hy => by omega)
      have y5' : rR (sUp st (n1 A a) 1 a (-1)) y := by rw [← en]; exact y5
      have yJ : RJ A s y (fun x b => A 10 (4 * b + x) - pX A a x b) := RJ_eq (fun x y hx hy => by show A 10 (4 * y + x) + -1 * pX A a x y = A 10 (4 * y + x) - pX A a x y; omega) y1
      have sb := sUp_b (c := 1) (o := a) (t := -1) (nzz_b _ : 0 ≤ n1 A a ∧ n1 A a ≤ 364) hs
      have back : ∀ (st' : Bst) (y : Mem), (0 ≤ st'.1 ∧ st'.1 ≤ 400) → RJ A s y (fun x b => A 10 (4 * b + x) - pX A a x b) → rR st' y → sF1 A m n (a + 1) st' = E → ∀ b, EV (d + 6) o_R_laysSlips 128 [] [137, m, a, b] y Q := by
        intro st' y hs' yJ hR' he2 b
        rw [e_R_laysSlips_128]
        simp (disch := first | assumption | omega) only [rn, wk, al, wr_e, td_e, tm_e, mset_eq, mset_ne, if_pos, if_neg, Int.reduceAdd, Int.reduceSub, Int.reduceMul, Int.reduceNeg, Int.reduceLT, Int.reduceLE, Int.reduceEq, Int.cast_ofNat_Int, eq_self, and_true, true_and, ite_self, true_or, or_true, false_or, or_false, and_false, false_and, not_true_eq_false, not_false_eq_true, if_true, if_false]
        refine EV_call (CV_mono (RJ_puts (d + 1) A s y _ (fun x y hx hy => ?_) yJ a 1 hak (Or.inl rfl)) ?_)
        · have := hr (4 * y + x) (by omega)
          have := pX_ok hv hak (x := x) (b := y) hx.1
          show -2000 ≤ A 10 (4 * y + x) - pX A a x y ∧ A 10 (4 * y + x) - pX A a x y ≤ 2000
          omega
        rintro r3 z ⟨z1', z2⟩
        have zJ : RJ A s z (fun x b => A 10 (4 * b + x)) := RJ_eq (fun x y hx hy => by show A 10 (4 * y + x) - pX A a x y + 1 * pX A a x y = A 10 (4 * y + x); omega) z1'
        have hx2 := ih (a + 1) st' z b (by omega) (by omega) hs' zJ (z2 _ hR') he2
        simp (disch := first | assumption | omega) only [rn, wk, al, wr_e, td_e, tm_e, mset_eq, mset_ne, if_pos, if_neg, Int.reduceAdd, Int.reduceSub, Int.reduceMul, Int.reduceNeg, Int.reduceLT, Int.reduceLE, Int.reduceEq, Int.cast_ofNat_Int, eq_self, and_true, true_and, ite_self, true_or, or_true, false_or, or_false, and_false, false_and, not_true_eq_false, not_false_eq_true, if_true, if_false, e_R_laysSlips_0, e_R_laysSlips_55, e_R_laysSlips_103, e_R_laysSlips_122, e_R_laysSlips_128, e_R_laysSlips_134, e_R_laysSlips_140]
        exact hx2
      by_cases cm : 1 < m
      · rw [if_pos cm] at he'
        have hx2 := lp_rs2 d A s hv hr m a cm hak Q (sF2 A a n (a + 1) (sUp st (n1 A a) 1 a (-1))) (fun u' hJ' hR' => back _ u' (sF2_b A a n (a + 1) _ sb) hJ' hR' he' 315) n (a + 1) _ y (by omega) (by omega) sb yJ y5' rfl
        simp (disch := first | assumption | omega) only [rn, wk, al, wr_e, td_e, tm_e, mset_eq, mset_ne, if_pos, if_neg, Int.reduceAdd, Int.reduceSub, Int.reduceMul, Int.reduceNeg, Int.reduceLT, Int.reduceLE, Int.reduceEq, Int.cast_ofNat_Int, eq_self, and_true, true_and, ite_self, true_or, or_true, false_or, or_false, and_false, false_and, not_true_eq_false, not_false_eq_true, if_true, if_false, e_R_laysSlips_0, e_R_laysSlips_55, e_R_laysSlips_103, e_R_laysSlips_122, e_R_laysSlips_134, e_R_laysSlips_140]
        exact hx2
      · rw [if_neg cm] at he'
        have hx2 := back _ y sb yJ y5' he' (a + 1)
        simp (disch := first | assumption | omega) only [rn, wk, al, wr_e, td_e, tm_e, mset_eq, mset_ne, if_pos, if_neg, Int.reduceAdd, Int.reduceSub, Int.reduceMul, Int.reduceNeg, Int.reduceLT, Int.reduceLE, Int.reduceEq, Int.cast_ofNat_Int, eq_self, and_true, true_and, ite_self, true_or, or_true, false_or, or_false, and_false, false_and, not_true_eq_false, not_false_eq_true, if_true, if_false, e_R_laysSlips_0, e_R_laysSlips_55, e_R_laysSlips_103, e_R_laysSlips_122, e_R_laysSlips_134, e_R_laysSlips_140]
        rw [e_R_laysSlips_72]
        simp (disch := first | assumption | omega) only [rn, wk, al, wr_e, td_e, tm_e, mset_eq, mset_ne, if_pos, if_neg, Int.reduceAdd, Int.reduceSub, Int.reduceMul, Int.reduceNeg, Int.reduceLT, Int.reduceLE, Int.reduceEq, Int.cast_ofNat_Int, eq_self, and_true, true_and, ite_self, true_or, or_true, false_or, or_false, and_false, false_and, not_true_eq_false, not_false_eq_true, if_true, if_false]
        exact hx2
    · rw [if_neg cb] at he'
      have hx2 := ih (a + 1) st u z (by omega) (by omega) hs hJ hR he'
      by_cases cv : vQ A (a / 21)
      · have hak : vK A a := ⟨by omega, by omega, cv⟩
        have q1 := q_isCall1 (d + 3) A u hJ.2.1 a hak
        have q2 := q_isLoud (d + 2) A u hJ.2.1 a hak
        rw [if_neg cb] at q2
        simp (disch := first | assumption | omega) only [rn, wk, al, wr_e, td_e, tm_e, mset_eq, mset_ne, if_pos, if_neg, Int.reduceAdd, Int.reduceSub, Int.reduceMul, Int.reduceNeg, Int.reduceLT, Int.reduceLE, Int.reduceEq, Int.cast_ofNat_Int, eq_self, and_true, true_and, ite_self, true_or, or_true, false_or, or_false, and_false, false_and, not_true_eq_false, not_false_eq_true, if_true, if_false, e_R_laysSlips_0, e_R_laysSlips_55, e_R_laysSlips_103, e_R_laysSlips_122, e_R_laysSlips_128, e_R_laysSlips_134, e_R_laysSlips_140, q1, q2]
        exact hx2
      · have q1 := q_isCall0 (d + 3) A u hJ.2.1 a (by omega) cv
        simp (disch := first | assumption | omega) only [rn, wk, al, wr_e, td_e, tm_e, mset_eq, mset_ne, if_pos, if_neg, Int.reduceAdd, Int.reduceSub, Int.reduceMul, Int.reduceNeg, Int.reduceLT, Int.reduceLE, Int.reduceEq, Int.cast_ofNat_Int, eq_self, and_true, true_and, ite_self, true_or, or_true, false_or, or_false, and_false, false_and, not_true_eq_false, not_false_eq_true, if_true, if_false, e_R_laysSlips_0, e_R_laysSlips_55, e_R_laysSlips_103, e_R_laysSlips_122, e_R_laysSlips_128, e_R_laysSlips_134, e_R_laysSlips_140, q1]
        exact hx2
theorem KA_VB {A : Mem} (h : KA A) : VB A := ⟨h.1, h.2.2.1, h.2.2.2.1, h.2.2.2.2.1⟩
theorem q_laysSlips (d : Nat) (A s : Mem) (hK : KA A) (hR : KR A s) (m : Int) (hm : 0 ≤ m ∧ m ≤ 2) : CV (d + 7) 332 [137, m] s fun _ u => Frs s u ∧ rR (sAll A m) u := by
  have hv := KA_VB hK
  have hcc := hK.1
  unfold VC at hcc
  obtain ⟨rc, rw_, rs, rl, rk, r10, rz⟩ := hR
  have rc' := rc
  unfold RC at rc'
  apply c_R_laysSlips
  simp (disch := first | assumption | omega) only [rn, wk, al, wr_e, td_e, tm_e, mset_eq, mset_ne, if_pos, if_neg, Int.reduceAdd, Int.reduceSub, Int.reduceMul, Int.reduceNeg, Int.reduceLT, Int.reduceLE, Int.reduceEq, Int.cast_ofNat_Int, eq_self, and_true, true_and, ite_self, true_or, or_true, false_or, or_false, and_false, false_and, not_true_eq_false, not_false_eq_true, if_true, if_false, e_R_laysSlips_0, e_R_laysSlips_55, e_R_laysSlips_103, e_R_laysSlips_122, e_R_laysSlips_128, e_R_laysSlips_134, e_R_laysSlips_140]
  refine EV_call (CV_mono (q_laysFar (d + 4) A s hK.1 hK.2.1 rc rw_) ?_)
  rintro r t ⟨f1, f2⟩
  have hn := nf_of hK.1 hK.2.1 hK.2.2.2.2.1 f2
  have e138 : t 138 = s 138 := funext (fun i => f1 _ _ (by omega))
  have ell : ∀ x b, 0 ≤ x ∧ x < 4 → 0 ≤ b ∧ b < 91 → llF t 1 (91 * x + b) = A 10 (4 * b + x) := by
    intro x b hx hb
    unfold llF
    rw [e138]
    by_cases c : x < A 0 3
    · rw [if_pos (by omega), show 134 + (91 * x + b) = 134 + 91 * x + b by omega]; exact r10 x b hx hb
    · rw [if_neg (by omega)]; exact (rz x b (by omega) hb).symm
  refine EV_call (CV_mono (q_laysLeft (d + 5) t 1 (Or.inr rfl) (by rw [e138]; omega) (fun j hj => ?_)) ?_)
  · have q := ell (j / 91) (j % 91) (by omega) (by omega)
    rw [show 91 * (j / 91) + j % 91 = j by omega] at q
    rw [q]; exact hK.2.2.2.2.2.2 _ (by omega)
  rintro r2 w ⟨w1, w2, w3⟩
  have w138 : w 138 = s 138 := by rw [Fl_cell w1 (by omega) (by omega), e138]
  have hRB : RB A w := by
    refine ⟨hv, by rw [w138]; exact rc, by rw [w138]; exact rs, by rw [w138]; exact rl, ?_⟩
    rw [Fl_cell w1 (by omega) (by omega)]; exact hn
  have hJ0 : RJ A s (mset w 137 37 1000000) (fun x b => A 10 (4 * b + x)) := by
    refine ⟨fun c i y1 y2 y3 => by rw [mset_ne (by omega), w1 c i (by omega) (by omega), f1 c i (by omega)], RB_congr (mset_nc (by omega)) (mset_nc (by omega)) hRB, ?_, fun x b hx hb => by rw [mset_ne (by omega), w3 _ (by omega)]; exact ell x b hx hb⟩
    unfold LF at w2 ⊢
    rw [mset_ne (by omega), mset_ne (by omega), mset_nc (by omega)]; exact w2
  obtain ⟨y, hy⟩ : ∃ y, y = mset w 137 37 1000000 := ⟨_, rfl⟩
  rw [← hy] at hJ0
  have hR0 : rR (1000000, y 137 38, y 137 39, y 137 40) y := ⟨by rw [hy, mset_eq rfl rfl], rfl, rfl, rfl⟩
  simp (disch := first | assumption | omega) only [rn, wk, al, wr_e, td_e, tm_e, mset_eq, mset_ne, if_pos, if_neg, Int.reduceAdd, Int.reduceSub, Int.reduceMul, Int.reduceNeg, Int.reduceLT, Int.reduceLE, Int.reduceEq, Int.cast_ofNat_Int, eq_self, and_true, true_and, ite_self, true_or, or_true, false_or, or_false, and_false, false_and, not_true_eq_false, not_false_eq_true, if_true, if_false, e_R_laysSlips_0, e_R_laysSlips_55, e_R_laysSlips_103, e_R_laysSlips_122, e_R_laysSlips_128, e_R_laysSlips_134, e_R_laysSlips_140, ← hy]
  refine EV_call (CV_mono (q_slipsBy (d + 5) A s y _ hJ0 _ (by show (0 : Int) ≤ 1000000 ∧ (1000000 : Int) ≤ 1000000; omega) hR0 0 (-1) (-1)) ?_)
  rintro r3 z ⟨z1', z5⟩
  have nb : 0 ≤ n0 A ∧ n0 A ≤ 364 := nzz_b _
  have eu : sUp (1000000, y 137 38, y 137 39, y 137 40) (nzz (fun x b => A 10 (4 * b + x))) 0 (-1) (-1) = (n0 A, 0, -1, -1) := sUp_y (show n0 A < 1000000 by omega)
  rw [eu] at z5
  by_cases c : 0 < m
  · have hx := lp_rs1 d A s hv hK.2.2.2.2.2.2 m ⟨c, hm.2⟩ (fun _ u => Frs s u ∧ rR (sAll A m) u) (sAll A m) (fun u a b => ⟨a.1, b⟩) 315 0 (n0 A, 0, -1, -1) z 0 (by omega) (by omega) (by show 0 ≤ n0 A ∧ n0 A ≤ 400; omega) z1' z5 (by unfold sAll; rw [if_pos c])
    simp (disch := first | assumption | omega) only [rn, wk, al, wr_e, td_e, tm_e, mset_eq, mset_ne, if_pos, if_neg, Int.reduceAdd, Int.reduceSub, Int.reduceMul, Int.reduceNeg, Int.reduceLT, Int.reduceLE, Int.reduceEq, Int.cast_ofNat_Int, eq_self, and_true, true_and, ite_self, true_or, or_true, false_or, or_false, and_false, false_and, not_true_eq_false, not_false_eq_true, if_true, if_false, e_R_laysSlips_0, e_R_laysSlips_55, e_R_laysSlips_103, e_R_laysSlips_122, e_R_laysSlips_128, e_R_laysSlips_134, e_R_laysSlips_140]
    exact hx
  · have hp : Frs s z ∧ rR (sAll A m) z := ⟨z1'.1, by unfold sAll; rw [if_neg c]; exact z5⟩
    simp (disch := first | assumption | omega) only [rn, wk, al, wr_e, td_e, tm_e, mset_eq, mset_ne, if_pos, if_neg, Int.reduceAdd, Int.reduceSub, Int.reduceMul, Int.reduceNeg, Int.reduceLT, Int.reduceLE, Int.reduceEq, Int.cast_ofNat_Int, eq_self, and_true, true_and, ite_self, true_or, or_true, false_or, or_false, and_false, false_and, not_true_eq_false, not_false_eq_true, if_true, if_false, e_R_laysSlips_0, e_R_laysSlips_55, e_R_laysSlips_103, e_R_laysSlips_122, e_R_laysSlips_128, e_R_laysSlips_134, e_R_laysSlips_140]
    rw [e_R_laysSlips_25]
    simp (disch := first | assumption | omega) only [rn, wk, al, wr_e, td_e, tm_e, mset_eq, mset_ne, if_pos, if_neg, Int.reduceAdd, Int.reduceSub, Int.reduceMul, Int.reduceNeg, Int.reduceLT, Int.reduceLE, Int.reduceEq, Int.cast_ofNat_Int, eq_self, and_true, true_and, ite_self, true_or, or_true, false_or, or_false, and_false, false_and, not_true_eq_false, not_false_eq_true, if_true, if_false, e_R_laysSlips_0, e_R_laysSlips_55, e_R_laysSlips_103, e_R_laysSlips_122, e_R_laysSlips_128, e_R_laysSlips_134, e_R_laysSlips_140]
    exact hp
