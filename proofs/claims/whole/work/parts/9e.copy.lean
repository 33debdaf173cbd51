/-! ===== H2: copyHeard ===== -/
def wrt (s : Mem) (a b : Int) (f : Int → Int) (n : Int) : Mem := fun c => if c = a then (fun j => if b ≤ j ∧ j < b + n then f (j - b) else s a j) else s c
theorem wrt_in {s : Mem} {a b : Int} {f : Int → Int} {n c j : Int} (h1 : c = a) (h2 : b ≤ j ∧ j < b + n) : wrt s a b f n c j = f (j - b) := by unfold wrt; rw [if_pos h1, if_pos h2]
theorem wrt_out {s : Mem} {a b : Int} {f : Int → Int} {n c j : Int} (h : ¬ (c = a ∧ b ≤ j ∧ j < b + n)) : wrt s a b f n c j = s c j := by
  unfold wrt
  by_cases h1 : c = a
  · rw [if_pos h1, if_neg (fun h2 => h ⟨h1, h2⟩), h1]
  · rw [if_neg h1]
theorem wrt_nil {s : Mem} {a b : Int} {f : Int → Int} : wrt s a b f 0 = s := by
  funext c j
  exact wrt_out (by omega)
theorem wrt_step {s : Mem} {a b : Int} {f : Int → Int} {n v : Int} (h : 0 ≤ n) (hv : v = f n) : mset (wrt s a b f n) a (b + n) v = wrt s a b f (n + 1) := by
  funext c j
  by_cases e : c = a
  · subst e
    by_cases e2 : j = b + n
    · subst e2; rw [mset_eq rfl rfl, wrt_in rfl (by omega), hv]; congr 1; omega
    · rw [mset_ne (by omega)]
      by_cases e3 : b ≤ j ∧ j < b + n
      · rw [wrt_in rfl e3, wrt_in rfl (by omega)]
      · rw [wrt_out (by omega), wrt_out (by omega)]
  · rw [mset_ne (by omega), wrt_out (by omega), wrt_out (by omega)]
theorem lp_Mcopy (d : Nat) (v : Mem) (x t b n z0 : Int) (F : Int → Int) (hx : 0 ≤ x ∧ x < 4) (ht : 0 ≤ t ∧ t < 4) (hb : 0 ≤ b ∧ b + n ≤ 91) (hn : 0 ≤ n ∧ n ≤ 60) (hF : ∀ j, 0 ≤ j ∧ j < n → v 2 (4 * (b + j) + x) = F j ∧ 0 ≤ F j ∧ F j ≤ 1000) (Q : Int → Mem → Prop) (hQ : Q (sg F 0 n.toNat) (mset (wrt v 6 (60 * t) (fun j => cutv (v 4 t) (F j)) n) 0 0 0)) : ∀ (m : Nat) (i : Nat) (z : Int), (i : Int) + m = n → EV (d + 2) o_M_copyHeard 122 [] [0, x, t, b, n, z0, sg F 0 i, i, z] (wrt v 6 (60 * t) (fun j => cutv (v 4 t) (F j)) i) Q := by
  intro m
  induction m with
  | zero =>
    intro i z hi
    have ei : (i : Int) = n := by omega
    have e2 : n.toNat = i := by omega
    rw [e2] at hQ
    rw [e_M_copyHeard_122]
    simp (disch := first | assumption | omega) only [rn, wk, al, wr_e, td_e, tm_e, mset_eq, mset_ne, if_pos, if_neg, Int.reduceAdd, Int.reduceSub, Int.reduceMul, Int.reduceNeg, Int.reduceLT, Int.reduceLE, Int.reduceEq, Int.cast_ofNat_Int, eq_self, and_true, true_and, ite_self, true_or, or_true, false_or, or_false, and_false, false_and, not_true_eq_false, not_false_eq_true, if_true, if_false, e_M_copyHeard_0, e_M_copyHeard_33, e_M_copyHeard_34, e_M_copyHeard_62, e_M_copyHeard_68, e_M_copyHeard_85, e_M_copyHeard_105, e_M_copyHeard_170, q_pass]
    rw [ei]; exact hQ
  | succ m ih =>
    intro i z hi
    obtain ⟨f1, f2⟩ := hF i (by omega)
    have hs := sg_bd (f := F) (m := 1000) i 0 (fun j a b => (hF j (by omega)).2)
    have e60 : t * 60 + (i : Int) = 60 * t + i := by omega
    have g4 : wrt v 6 (60 * t) (fun j => cutv (v 4 t) (F j)) i 4 t = v 4 t := wrt_out (by omega)
    have g2 : wrt v 6 (60 * t) (fun j => cutv (v 4 t) (F j)) i 2 (4 * (b + i) + x) = F i := by rw [wrt_out (by omega), f1]
    have st := wrt_step (s := v) (a := 6) (b := 60 * t) (f := fun j => cutv (v 4 t) (F j)) (n := i) (v := cutv (v 4 t) (F i)) (by omega) rfl
    have hx := ih (i + 1) (F i) (by omega)
    rw [sg_last, Int.zero_add, show ((i + 1 : Nat) : Int) = (i : Int) + 1 by omega] at hx
    rw [e_M_copyHeard_122]
    simp (disch := first | assumption | omega) only [rn, wk, al, wr_e, td_e, tm_e, mset_eq, mset_ne, if_pos, if_neg, Int.reduceAdd, Int.reduceSub, Int.reduceMul, Int.reduceNeg, Int.reduceLT, Int.reduceLE, Int.reduceEq, Int.cast_ofNat_Int, eq_self, and_true, true_and, ite_self, true_or, or_true, false_or, or_false, and_false, false_and, not_true_eq_false, not_false_eq_true, if_true, if_false, q_cellOf, g2, q_put, e60, g4, st]
    exact hx
theorem lp_Rcopy (d : Nat) (v : Mem) (x t b n so : Int) (F : Int → Int) (hx : 0 ≤ x ∧ x < 4) (ht : 0 ≤ t ∧ t < 4) (hb : 0 ≤ b ∧ b + n ≤ 91) (hn : 0 ≤ n ∧ n ≤ 60) (hso : v 140 t = so) (hF : ∀ j, 0 ≤ j ∧ j < n → v 147 (91 * x + b + j) = F j ∧ 0 ≤ F j ∧ F j ≤ 1000) (Q : Int → Mem → Prop) (hQ : Q (sg F 0 n.toNat) (mset (wrt v 142 (60 * t) (fun j => cutv so (F j)) n) 137 2 0)) : ∀ (m : Nat) (i : Nat) (z : Int), (i : Int) + m = n → EV (d + 2) o_R_copyHeard 93 [] [137, x, t, b, n, sg F 0 i, i, z] (wrt v 142 (60 * t) (fun j => cutv so (F j)) i) Q := by
  intro m
  induction m with
  | zero =>
    intro i z hi
    have ei : (i : Int) = n := by omega
    have e2 : n.toNat = i := by omega
    rw [e2] at hQ
    rw [e_R_copyHeard_93]
    simp (disch := first | assumption | omega) only [rn, wk, al, wr_e, td_e, tm_e, mset_eq, mset_ne, if_pos, if_neg, Int.reduceAdd, Int.reduceSub, Int.reduceMul, Int.reduceNeg, Int.reduceLT, Int.reduceLE, Int.reduceEq, Int.cast_ofNat_Int, eq_self, and_true, true_and, ite_self, true_or, or_true, false_or, or_false, and_false, false_and, not_true_eq_false, not_false_eq_true, if_true, if_false, e_R_copyHeard_0, e_R_copyHeard_44, e_R_copyHeard_50, e_R_copyHeard_66, e_R_copyHeard_83, e_R_copyHeard_153, q_gives]
    rw [ei]; exact hQ
  | succ m ih =>
    intro i z hi
    obtain ⟨f1, f2⟩ := hF i (by omega)
    have hs := sg_bd (f := F) (m := 1000) i 0 (fun j a b => (hF j (by omega)).2)
    have g4 : wrt v 142 (60 * t) (fun j => cutv so (F j)) i 140 t = so := by rw [wrt_out (by omega), hso]
    have g2 : wrt v 142 (60 * t) (fun j => cutv so (F j)) i 147 (91 * x + b + i) = F i := by rw [wrt_out (by omega), f1]
    have st := wrt_step (s := v) (a := 142) (b := 60 * t) (f := fun j => cutv so (F j)) (n := i) (v := cutv so (F i)) (by omega) rfl
    have hx := ih (i + 1) (F i) (by omega)
    rw [sg_last, Int.zero_add, show ((i + 1 : Nat) : Int) = (i : Int) + 1 by omega] at hx
    rw [e_R_copyHeard_93]
    simp (disch := first | assumption | omega) only [rn, wk, al, wr_e, td_e, tm_e, mset_eq, mset_ne, if_pos, if_neg, Int.reduceAdd, Int.reduceSub, Int.reduceMul, Int.reduceNeg, Int.reduceLT, Int.reduceLE, Int.reduceEq, Int.cast_ofNat_Int, eq_self, and_true, true_and, ite_self, true_or, or_true, false_or, or_false, and_false, false_and, not_true_eq_false, not_false_eq_true, if_true, if_false, g2, q_Rcut, g4, st]
    exact hx
theorem ak_copyHeard (d : Nat) (x t b n : Int) (hb32 : in32 b) (hn32 : in32 n) : Ak (d + 30) 137 319 [x, t, b, n] := by
  apply ak_of; intro s hi
  have hc := inv_c hi
  have hr := inv_rc hi
  have hv := VB_of (inv_va hi)
  have hk := vKs_of hi.2.2.2.2.1
  have hb' := hb32
  have hn' := hn32
  unfold in32 at hb' hn'
  by_cases c1 : (0 ≤ x ∧ x < s 37 3) ∧ (0 ≤ t ∧ t < 4) ∧ (0 ≤ b ∧ b ≤ 90) ∧ (0 ≤ n ∧ n ≤ 60) ∧ b + n ≤ 91
  · obtain ⟨cx, ct, cb, cn, cbn⟩ := c1
    have htr := hi.2.2.1 t ct
    by_cases c2 : s 4 t = -1
    · have c3 : s 141 t = -1 := by omega
      apply c_M_copyHeard
      simp (disch := first | assumption | omega) only [rn, wk, al, wr_e, td_e, tm_e, mset_eq, mset_ne, if_pos, if_neg, Int.reduceAdd, Int.reduceSub, Int.reduceMul, Int.reduceNeg, Int.reduceLT, Int.reduceLE, Int.reduceEq, Int.cast_ofNat_Int, eq_self, and_true, true_and, ite_self, true_or, or_true, false_or, or_false, and_false, false_and, not_true_eq_false, not_false_eq_true, if_true, if_false, e_M_copyHeard_0, e_M_copyHeard_33, e_M_copyHeard_34, e_M_copyHeard_62, e_M_copyHeard_68, e_M_copyHeard_85, e_M_copyHeard_105, e_M_copyHeard_170, q_hasSlate, q_isOne, q_isBeat, q_isMissing, q_fail]
      apply c_R_copyHeard
      simp (disch := first | assumption | omega) only [rn, wk, al, wr_e, td_e, tm_e, mset_eq, mset_ne, if_pos, if_neg, Int.reduceAdd, Int.reduceSub, Int.reduceMul, Int.reduceNeg, Int.reduceLT, Int.reduceLE, Int.reduceEq, Int.cast_ofNat_Int, eq_self, and_true, true_and, ite_self, true_or, or_true, false_or, or_false, and_false, false_and, not_true_eq_false, not_false_eq_true, if_true, if_false, e_R_copyHeard_0, e_R_copyHeard_44, e_R_copyHeard_50, e_R_copyHeard_66, e_R_copyHeard_83, e_R_copyHeard_153, q_isSlate, q_isTray, q_RisBeat, q_isFrom, q_refuse]
      exact inv_st 2 hi
    · rcases htr with q | ⟨q1, q2, q3, q4, q5⟩
      · omega
      · by_cases c3 : n ≤ s 5 t
        · have q0 : in32 0 := by unfold in32; omega
          apply c_M_copyHeard
          simp (disch := first | assumption | omega) only [rn, wk, al, wr_e, td_e, tm_e, mset_eq, mset_ne, if_pos, if_neg, Int.reduceAdd, Int.reduceSub, Int.reduceMul, Int.reduceNeg, Int.reduceLT, Int.reduceLE, Int.reduceEq, Int.cast_ofNat_Int, eq_self, and_true, true_and, ite_self, true_or, or_true, false_or, or_false, and_false, false_and, not_true_eq_false, not_false_eq_true, if_true, if_false, e_M_copyHeard_0, e_M_copyHeard_33, e_M_copyHeard_34, e_M_copyHeard_62, e_M_copyHeard_68, e_M_copyHeard_85, e_M_copyHeard_170, q_hasSlate, q_isOne, q_isBeat, q_isMissing, q_reaches, Int.zero_add]
          rw [e_M_copyHeard_105]
          simp (disch := first | assumption | omega) only [rn, wk, al, wr_e, td_e, tm_e, mset_eq, mset_ne, if_pos, if_neg, Int.reduceAdd, Int.reduceSub, Int.reduceMul, Int.reduceNeg, Int.reduceLT, Int.reduceLE, Int.reduceEq, Int.cast_ofNat_Int, eq_self, and_true, true_and, ite_self, true_or, or_true, false_or, or_false, and_false, false_and, not_true_eq_false, not_false_eq_true, if_true, if_false]
          refine EV_call (CV_mono (ws_ hi _) ?_)
          rintro r v ⟨v1, v2⟩
          have hF : ∀ j, 0 ≤ j ∧ j < n → v 2 (4 * (b + j) + x) = sb (win s 37) x (b + j) ∧ 0 ≤ sb (win s 37) x (b + j) ∧ sb (win s 37) x (b + j) ≤ 1000 := by
            intro j hj
            have := sb_ok hv hk (b + j) (x := x) cx
            rw [v2 x (b + j) (by omega) (by omega), if_pos cx.2]
            exact ⟨rfl, by omega, by omega⟩
          have hl := lp_Mcopy (d + 27) v x t b n 1 (fun j => sb (win s 37) x (b + j)) (by omega) ct (by omega) cn hF (fun r t' => CV (d + 30) 319 [137, x, t, b, n] t' fun r' u => r' = r ∧ Inv u) ?_ n.toNat 0 0 (by omega)
          · rw [show ((0 : Nat) : Int) = 0 from rfl, wrt_nil] at hl
            exact hl
          · have g4 : v 4 t = s 4 t := v1 _ _ (by omega)
            rw [g4]
            have G : ∀ c i, c ≠ 2 → c ≠ 6 → ¬ (c = 0 ∧ i = 0) → mset (wrt v 6 (60 * t) (fun j => cutv (s 4 t) (sb (win s 37) x (b + j))) n) 0 0 0 c i = s c i := fun c i a b' e => by
              rw [mset_ne e, wrt_out (by omega), v1 c i a]
            have G6 : ∀ i, mset (wrt v 6 (60 * t) (fun j => cutv (s 4 t) (sb (win s 37) x (b + j))) n) 0 0 0 6 i = if 60 * t ≤ i ∧ i < 60 * t + n then cutv (s 4 t) (sb (win s 37) x (b + (i - 60 * t))) else s 6 i := fun i => by
              rw [mset_ne (by omega)]
              by_cases c : 60 * t ≤ i ∧ i < 60 * t + n
              · rw [wrt_in rfl c, if_pos c]
              · rw [wrt_out (by omega), if_neg c, v1 _ _ (by omega)]
            have G0 : mset (wrt v 6 (60 * t) (fun j => cutv (s 4 t) (sb (win s 37) x (b + j))) n) 0 0 0 0 0 = 0 := mset_eq rfl rfl
            generalize mset (wrt v 6 (60 * t) (fun j => cutv (s 4 t) (sb (win s 37) x (b + j))) n) 0 0 0 = w at G G6 G0 ⊢
            have e138 : w 138 = s 138 := by funext i; exact G _ _ (by omega) (by omega) (by omega)
            have g2 : w 138 2 = s 37 3 := by rw [e138]; omega
            have g141 : w 141 t = s 5 t := by rw [G _ _ (by omega) (by omega) (by omega), q3]
            apply c_R_copyHeard
            simp (disch := first | assumption | omega) only [rn, wk, al, wr_e, td_e, tm_e, mset_eq, mset_ne, if_pos, if_neg, Int.reduceAdd, Int.reduceSub, Int.reduceMul, Int.reduceNeg, Int.reduceLT, Int.reduceLE, Int.reduceEq, Int.cast_ofNat_Int, eq_self, and_true, true_and, ite_self, true_or, or_true, false_or, or_false, and_false, false_and, not_true_eq_false, not_false_eq_true, if_true, if_false, e_R_copyHeard_0, e_R_copyHeard_44, e_R_copyHeard_50, e_R_copyHeard_66, e_R_copyHeard_153, q_isSlate, q_isTray, q_RisBeat, q_isFrom, g2, g141]
            rw [e_R_copyHeard_83]
            simp (disch := first | assumption | omega) only [rn, wk, al, wr_e, td_e, tm_e, mset_eq, mset_ne, if_pos, if_neg, Int.reduceAdd, Int.reduceSub, Int.reduceMul, Int.reduceNeg, Int.reduceLT, Int.reduceLE, Int.reduceEq, Int.cast_ofNat_Int, eq_self, and_true, true_and, ite_self, true_or, or_true, false_or, or_false, and_false, false_and, not_true_eq_false, not_false_eq_true, if_true, if_false]
            refine EV_call (CV_mono (ls_ hi _ e138) ?_)
            rintro r' u ⟨u1, u2, u3, u4⟩
            have hF2 : ∀ j, 0 ≤ j ∧ j < n → u 147 (91 * x + b + j) = sb (win s 37) x (b + j) ∧ 0 ≤ sb (win s 37) x (b + j) ∧ sb (win s 37) x (b + j) ≤ 1000 := by
              intro j hj
              have := sb_ok hv hk (b + j) (x := x) cx
              rw [show 91 * x + b + j = 91 * x + (b + j) by omega, u4 x (b + j) (by omega) (by omega), if_pos (show x < win s 37 0 3 from cx.2)]
              exact ⟨rfl, by omega, by omega⟩
            have g140 : u 140 t = s 4 t := by rw [u1 _ _ (by omega) (by omega) (by omega), G _ _ (by omega) (by omega) (by omega), q2]
            have hl := lp_Rcopy (d + 27) u x t b n (s 4 t) (fun j => sb (win s 37) x (b + j)) (by omega) ct (by omega) cn g140 hF2 (fun r' u => r' = sg (fun j => sb (win s 37) x (b + j)) 0 n.toNat ∧ Inv u) ?_ n.toNat 0 0 (by omega)
            · rw [show ((0 : Nat) : Int) = 0 from rfl, wrt_nil] at hl
              exact hl
            · refine ⟨rfl, ?_⟩
              have H : ∀ c i, c ≠ 2 → c ≠ 6 → ¬ (c = 0 ∧ i = 0) → c ≠ 147 → c ≠ 146 → ¬ (c = 137 ∧ (i = 26 ∨ i = 27)) → u c i = s c i := fun c i a1 a2 a3 a4 a5 a6 => by
                rw [u1 c i a4 a5 a6, G c i a1 a2 a3]
              have H6 : ∀ i, u 6 i = if 60 * t ≤ i ∧ i < 60 * t + n then cutv (s 4 t) (sb (win s 37) x (b + (i - 60 * t))) else s 6 i := fun i => by
                rw [u1 _ _ (by omega) (by omega) (by omega), G6]
              have H0 : u 0 0 = 0 := by rw [u1 _ _ (by omega) (by omega) (by omega), G0]
              refine ⟨by rw [mset_eq rfl rfl, mset_ne (by omega), wrt_out (by omega), H0], keep_FA hi ?_ ?_ ?_ ?_ ?_, ?_, keep_TP hi ?_ ?_ ?_ ?_, keep_HR hi ?_ ?_ ?_, keep_MK hi ?_ ?_ ?_ ?_⟩
              rotate_left 5
              · intro t' ht'
                have htr := hi.2.2.1 t' ht'
                simp (disch := omega) only [mset_ne, wrt_out, H]
                rcases htr with q | ⟨q1, q2, q3, q4, q5⟩
                · exact Or.inl q
                · refine Or.inr ⟨q1, q2, q3, q4, ?_⟩
                  intro i hi'
                  by_cases e : 60 * t ≤ 60 * t' + i ∧ 60 * t' + i < 60 * t + n
                  · rw [wrt_in rfl e, H6, if_pos e]
                  · rw [wrt_out (by omega), H6, if_neg e, H _ _ (by omega) (by omega) (by omega) (by omega) (by omega) (by omega)]
                    exact q5 i hi'
              all_goals
                intros
                simp (disch := omega) only [mset_ne, wrt_out, H]
        · have q0 : in32 0 := by unfold in32; omega
          apply c_M_copyHeard
          simp (disch := first | assumption | omega) only [rn, wk, al, wr_e, td_e, tm_e, mset_eq, mset_ne, if_pos, if_neg, Int.reduceAdd, Int.reduceSub, Int.reduceMul, Int.reduceNeg, Int.reduceLT, Int.reduceLE, Int.reduceEq, Int.cast_ofNat_Int, eq_self, and_true, true_and, ite_self, true_or, or_true, false_or, or_false, and_false, false_and, not_true_eq_false, not_false_eq_true, if_true, if_false, e_M_copyHeard_0, e_M_copyHeard_33, e_M_copyHeard_34, e_M_copyHeard_62, e_M_copyHeard_68, e_M_copyHeard_85, e_M_copyHeard_105, e_M_copyHeard_170, q_hasSlate, q_isOne, q_isBeat, q_isMissing, q_reaches, Int.zero_add, q_fail]
          apply c_R_copyHeard
          simp (disch := first | assumption | omega) only [rn, wk, al, wr_e, td_e, tm_e, mset_eq, mset_ne, if_pos, if_neg, Int.reduceAdd, Int.reduceSub, Int.reduceMul, Int.reduceNeg, Int.reduceLT, Int.reduceLE, Int.reduceEq, Int.cast_ofNat_Int, eq_self, and_true, true_and, ite_self, true_or, or_true, false_or, or_false, and_false, false_and, not_true_eq_false, not_false_eq_true, if_true, if_false, e_R_copyHeard_0, e_R_copyHeard_44, e_R_copyHeard_50, e_R_copyHeard_66, e_R_copyHeard_83, e_R_copyHeard_153, q_isSlate, q_isTray, q_RisBeat, q_isFrom, q_refuse]
          exact inv_st 3 hi
  · have hm : CV (d + 30) 319 [137, x, t, b, n] (mset s 0 0 1) fun r' u => r' = -1 ∧ Inv u := by
      apply c_R_copyHeard
      simp (disch := first | assumption | omega) only [rn, wk, al, wr_e, td_e, tm_e, mset_eq, mset_ne, if_pos, if_neg, Int.reduceAdd, Int.reduceSub, Int.reduceMul, Int.reduceNeg, Int.reduceLT, Int.reduceLE, Int.reduceEq, Int.cast_ofNat_Int, eq_self, and_true, true_and, ite_self, true_or, or_true, false_or, or_false, and_false, false_and, not_true_eq_false, not_false_eq_true, if_true, if_false, e_R_copyHeard_0, e_R_copyHeard_44, e_R_copyHeard_50, e_R_copyHeard_66, e_R_copyHeard_83, e_R_copyHeard_153, q_isSlate, q_isTray, q_RisBeat, q_isFrom, q_refuse]
      repeat' split
      all_goals first | exact inv_st 1 hi | omega
    apply c_M_copyHeard
    simp (disch := first | assumption | omega) only [rn, wk, al, wr_e, td_e, tm_e, mset_eq, mset_ne, if_pos, if_neg, Int.reduceAdd, Int.reduceSub, Int.reduceMul, Int.reduceNeg, Int.reduceLT, Int.reduceLE, Int.reduceEq, Int.cast_ofNat_Int, eq_self, and_true, true_and, ite_self, true_or, or_true, false_or, or_false, and_false, false_and, not_true_eq_false, not_false_eq_true, if_true, if_false, e_M_copyHeard_0, e_M_copyHeard_33, e_M_copyHeard_34, e_M_copyHeard_62, e_M_copyHeard_68, e_M_copyHeard_85, e_M_copyHeard_105, e_M_copyHeard_170, q_hasSlate, q_isOne, q_isBeat, q_fail]
    repeat' split
    all_goals first | exact hm | omega
