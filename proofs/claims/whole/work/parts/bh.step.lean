/-! ===== H2: mornings, the class begins and ends steps ===== -/
def plW (w : Int) : Prop := w = 10 ∨ w = 11 ∨ w = 12 ∨ w = 13 ∨ w = 14 ∨ w = 20
theorem ip_0 (d : Nat) (w : Int) (s : Mem) (G : Int → Mem → Prop) (pc : Int) (h : (w = 10 ∧ pc = 60) ∨ (w = 11 ∧ pc = 60) ∨ (w = 12 ∧ pc = 60) ∨ (w = 13 ∧ pc = 60) ∨ (w = 14 ∧ pc = 60) ∨ (w = 20 ∧ pc = 60) ∨ (w = 15 ∧ pc = 62) ∨ (w = 16 ∧ pc = 62) ∨ (w = 17 ∧ pc = 62) ∨ (w = 18 ∧ pc = 62) ∨ (w = 19 ∧ pc = 62) ∨ ((w < 10 ∨ 20 < w) ∧ pc = 62)) (hx : EV d o_MorningsReader_isPlainStep pc [] [w] s G) : EV d o_MorningsReader_isPlainStep 0 [] [w] s G := by
  have hgo : EVQ d o_MorningsReader_isPlainStep (swk [(10, 60), (11, 60), (12, 60), (13, 60), (14, 60), (15, 62), (16, 62), (17, 62), (18, 62), (19, 62), (20, 60)] 62 w fun q => some (q, [], [w], s)) G := by
    rcases h with ⟨e, e2⟩ | ⟨e, e2⟩ | ⟨e, e2⟩ | ⟨e, e2⟩ | ⟨e, e2⟩ | ⟨e, e2⟩ | ⟨e, e2⟩ | ⟨e, e2⟩ | ⟨e, e2⟩ | ⟨e, e2⟩ | ⟨e, e2⟩ | ⟨e, e2⟩
    · subst e e2; exact hx
    · subst e e2; exact hx
    · subst e e2; exact hx
    · subst e e2; exact hx
    · subst e e2; exact hx
    · subst e e2; exact hx
    · subst e e2; exact hx
    · subst e e2; exact hx
    · subst e e2; exact hx
    · subst e e2; exact hx
    · subst e e2; exact hx
    · subst e2
      rw [swk_c, if_neg (by omega), swk_c, if_neg (by omega), swk_c, if_neg (by omega), swk_c, if_neg (by omega), swk_c, if_neg (by omega), swk_c, if_neg (by omega), swk_c, if_neg (by omega), swk_c, if_neg (by omega), swk_c, if_neg (by omega), swk_c, if_neg (by omega), swk_c, if_neg (by omega), swk_n]
      exact hx
  rw [e_MorningsReader_isPlainStep_0]
  exact hgo
theorem q_isPlain1 (d : Nat) (w : Int) (s : Mem) (h : plW w) : sem (d + 1) 75 [w] s = some (1, s) := by
  unfold plW at h
  apply CV_eq; apply c_MorningsReader_isPlainStep
  refine ip_0 d w s _ 60 (by omega) ?_
  rw [e_MorningsReader_isPlainStep_60]
  simp (disch := first | assumption | omega) only [rn, wk, al, wr_e, td_e, tm_e, mset_eq, mset_ne, if_pos, if_neg, Int.reduceAdd, Int.reduceSub, Int.reduceMul, Int.reduceNeg, Int.reduceLT, Int.reduceLE, Int.reduceEq, Int.cast_ofNat_Int, eq_self, and_true, true_and, ite_self, true_or, or_true, false_or, or_false, and_false, false_and, not_true_eq_false, not_false_eq_true, if_true, if_false]
theorem q_isPlain0 (d : Nat) (w : Int) (s : Mem) (h : ¬ plW w) : sem (d + 1) 75 [w] s = some (0, s) := by
  unfold plW at h
  apply CV_eq; apply c_MorningsReader_isPlainStep
  refine ip_0 d w s _ 62 (by omega) ?_
  rw [e_MorningsReader_isPlainStep_62]
  simp (disch := first | assumption | omega) only [rn, wk, al, wr_e, td_e, tm_e, mset_eq, mset_ne, if_pos, if_neg, Int.reduceAdd, Int.reduceSub, Int.reduceMul, Int.reduceNeg, Int.reduceLT, Int.reduceLE, Int.reduceEq, Int.cast_ofNat_Int, eq_self, and_true, true_and, ite_self, true_or, or_true, false_or, or_false, and_false, false_and, not_true_eq_false, not_false_eq_true, if_true, if_false]
/-- the class begins a step -/
def BgP (T : Int → Int) (n p : Int) (s : Mem) (w r : Int) (t : Mem) : Prop :=
  (¬ (w = 15 ∨ w = 18) → ¬ plW w → r = 0 ∧ t = mset (mset s 7 8 (flt T n p 2)) 7 9 (tkq T n p)) ∧
  ((w = 15 ∨ w = 18) ∨ plW w → 30 ≤ s 69 1 → r = 0 ∧ t = mset (mset s 7 8 (flt T n p 6)) 7 9 (tkq T n p)) ∧
  ((w = 15 ∨ w = 18) → ¬ 30 ≤ s 69 1 → 3 ≤ s 10 2 → r = 0 ∧ t = mset (mset s 7 8 (flt T n p 7)) 7 9 (tkq T n p)) ∧
  ((w = 15 ∨ w = 18) → ¬ 30 ≤ s 69 1 → ¬ 3 ≤ s 10 2 → r = 1 ∧ t = mset (mset (mset (mset (mset s 70 (s 69 2) w) 69 2 (s 69 2 + 1)) 69 1 (s 69 1 + 1)) 11 (s 10 2) (s 69 2)) 10 2 (s 10 2 + 1)) ∧
  (plW w → ¬ 30 ≤ s 69 1 → r = 1 ∧ t = mset (mset (mset s 70 (s 69 2) w) 69 2 (s 69 2 + 1)) 69 1 (s 69 1 + 1))
theorem q_beginStep (d : Nat) {T : Int → Int} {n p : Int} {s : Mem} (hk : TkC T n p s) (w : Int) (hw : w = (if tkk T n p = 1 then wnT T n p else -1)) (hm : 0 ≤ s 69 2 ∧ s 69 2 + s 10 2 ≤ 2 * s 69 1) (hy : 0 ≤ s 69 1 ∧ s 69 1 ≤ 30) (he : 0 ≤ s 10 2 ∧ s 10 2 ≤ 3) : CV (d + 2) 74 [10, 69] s (BgP T n p s w) := by
  have qw := q_Tword d s hk
  rw [← hw] at qw
  have q2 := q_Trefuse d s 2 hk
  have q6 := q_Trefuse d s 6 hk
  have q7 := q_Trefuse d s 7 hk
  apply c_MorningsReader_beginStep
  by_cases co : w = 15 ∨ w = 18
  · have np : ¬ plW w := by unfold plW; omega
    by_cases c30 : 30 ≤ s 69 1
    · have hq : BgP T n p s w 0 (mset (mset s 7 8 (flt T n p 6)) 7 9 (tkq T n p)) := ⟨fun h => absurd co h, fun _ _ => ⟨rfl, rfl⟩, fun _ h => absurd c30 h, fun _ h => absurd c30 h, fun h => absurd h np⟩
      rcases co with e | e
      · subst e
        simp (disch := first | assumption | omega) only [rn, wk, al, wr_e, td_e, tm_e, mset_eq, mset_ne, if_pos, if_neg, Int.reduceAdd, Int.reduceSub, Int.reduceMul, Int.reduceNeg, Int.reduceLT, Int.reduceLE, Int.reduceEq, Int.cast_ofNat_Int, eq_self, and_true, true_and, ite_self, true_or, or_true, false_or, or_false, and_false, false_and, not_true_eq_false, not_false_eq_true, if_true, if_false, e_MorningsReader_beginStep_0, e_MorningsReader_beginStep_20, e_MorningsReader_beginStep_24, e_MorningsReader_beginStep_25, e_MorningsReader_beginStep_46, e_MorningsReader_beginStep_65, e_MorningsReader_beginStep_87, e_MorningsReader_beginStep_146, qw, q6]
        exact hq
      · subst e
        simp (disch := first | assumption | omega) only [rn, wk, al, wr_e, td_e, tm_e, mset_eq, mset_ne, if_pos, if_neg, Int.reduceAdd, Int.reduceSub, Int.reduceMul, Int.reduceNeg, Int.reduceLT, Int.reduceLE, Int.reduceEq, Int.cast_ofNat_Int, eq_self, and_true, true_and, ite_self, true_or, or_true, false_or, or_false, and_false, false_and, not_true_eq_false, not_false_eq_true, if_true, if_false, e_MorningsReader_beginStep_0, e_MorningsReader_beginStep_20, e_MorningsReader_beginStep_24, e_MorningsReader_beginStep_25, e_MorningsReader_beginStep_46, e_MorningsReader_beginStep_65, e_MorningsReader_beginStep_87, e_MorningsReader_beginStep_146, qw, q6]
        exact hq
    · by_cases c3 : 3 ≤ s 10 2
      · have hq : BgP T n p s w 0 (mset (mset s 7 8 (flt T n p 7)) 7 9 (tkq T n p)) := ⟨fun h => absurd co h, fun _ h => absurd h c30, fun _ _ _ => ⟨rfl, rfl⟩, fun _ _ h => absurd c3 h, fun h => absurd h np⟩
        rcases co with e | e
        · subst e
          simp (disch := first | assumption | omega) only [rn, wk, al, wr_e, td_e, tm_e, mset_eq, mset_ne, if_pos, if_neg, Int.reduceAdd, Int.reduceSub, Int.reduceMul, Int.reduceNeg, Int.reduceLT, Int.reduceLE, Int.reduceEq, Int.cast_ofNat_Int, eq_self, and_true, true_and, ite_self, true_or, or_true, false_or, or_false, and_false, false_and, not_true_eq_false, not_false_eq_true, if_true, if_false, e_MorningsReader_beginStep_0, e_MorningsReader_beginStep_20, e_MorningsReader_beginStep_24, e_MorningsReader_beginStep_25, e_MorningsReader_beginStep_46, e_MorningsReader_beginStep_65, e_MorningsReader_beginStep_87, e_MorningsReader_beginStep_146, qw, q7]
          exact hq
        · subst e
          simp (disch := first | assumption | omega) only [rn, wk, al, wr_e, td_e, tm_e, mset_eq, mset_ne, if_pos, if_neg, Int.reduceAdd, Int.reduceSub, Int.reduceMul, Int.reduceNeg, Int.reduceLT, Int.reduceLE, Int.reduceEq, Int.cast_ofNat_Int, eq_self, and_true, true_and, ite_self, true_or, or_true, false_or, or_false, and_false, false_and, not_true_eq_false, not_false_eq_true, if_true, if_false, e_MorningsReader_beginStep_0, e_MorningsReader_beginStep_20, e_MorningsReader_beginStep_24, e_MorningsReader_beginStep_25, e_MorningsReader_beginStep_46, e_MorningsReader_beginStep_65, e_MorningsReader_beginStep_87, e_MorningsReader_beginStep_146, qw, q7]
          exact hq
      · have hq : BgP T n p s w 1 (mset (mset (mset (mset (mset s 70 (s 69 2) w) 69 2 (s 69 2 + 1)) 69 1 (s 69 1 + 1)) 11 (s 10 2) (s 69 2)) 10 2 (s 10 2 + 1)) := ⟨fun h => absurd co h, fun _ h => absurd h c30, fun _ _ h => absurd h c3, fun _ _ _ => ⟨rfl, rfl⟩, fun h => absurd h np⟩
        rcases co with e | e
        · subst e
          simp (disch := first | assumption | omega) only [rn, wk, al, wr_e, td_e, tm_e, mset_eq, mset_ne, if_pos, if_neg, Int.reduceAdd, Int.reduceSub, Int.reduceMul, Int.reduceNeg, Int.reduceLT, Int.reduceLE, Int.reduceEq, Int.cast_ofNat_Int, eq_self, and_true, true_and, ite_self, true_or, or_true, false_or, or_false, and_false, false_and, not_true_eq_false, not_false_eq_true, if_true, if_false, e_MorningsReader_beginStep_0, e_MorningsReader_beginStep_20, e_MorningsReader_beginStep_24, e_MorningsReader_beginStep_25, e_MorningsReader_beginStep_46, e_MorningsReader_beginStep_65, e_MorningsReader_beginStep_87, e_MorningsReader_beginStep_146, qw]
          exact hq
        · subst e
          simp (disch := first | assumption | omega) only [rn, wk, al, wr_e, td_e, tm_e, mset_eq, mset_ne, if_pos, if_neg, Int.reduceAdd, Int.reduceSub, Int.reduceMul, Int.reduceNeg, Int.reduceLT, Int.reduceLE, Int.reduceEq, Int.cast_ofNat_Int, eq_self, and_true, true_and, ite_self, true_or, or_true, false_or, or_false, and_false, false_and, not_true_eq_false, not_false_eq_true, if_true, if_false, e_MorningsReader_beginStep_0, e_MorningsReader_beginStep_20, e_MorningsReader_beginStep_24, e_MorningsReader_beginStep_25, e_MorningsReader_beginStep_46, e_MorningsReader_beginStep_65, e_MorningsReader_beginStep_87, e_MorningsReader_beginStep_146, qw]
          exact hq
  · have n15 : w ≠ 15 := fun h => co (Or.inl h)
    have n18 : w ≠ 18 := fun h => co (Or.inr h)
    by_cases cp : plW w
    · have qp := q_isPlain1 d w s cp
      by_cases c30 : 30 ≤ s 69 1
      · have hq : BgP T n p s w 0 (mset (mset s 7 8 (flt T n p 6)) 7 9 (tkq T n p)) := ⟨fun _ h => absurd cp h, fun _ _ => ⟨rfl, rfl⟩, fun h => absurd h co, fun h => absurd h co, fun _ h => absurd c30 h⟩
        simp (disch := first | assumption | omega) only [rn, wk, al, wr_e, td_e, tm_e, mset_eq, mset_ne, if_pos, if_neg, Int.reduceAdd, Int.reduceSub, Int.reduceMul, Int.reduceNeg, Int.reduceLT, Int.reduceLE, Int.reduceEq, Int.cast_ofNat_Int, eq_self, and_true, true_and, ite_self, true_or, or_true, false_or, or_false, and_false, false_and, not_true_eq_false, not_false_eq_true, if_true, if_false, e_MorningsReader_beginStep_0, e_MorningsReader_beginStep_20, e_MorningsReader_beginStep_24, e_MorningsReader_beginStep_25, e_MorningsReader_beginStep_46, e_MorningsReader_beginStep_65, e_MorningsReader_beginStep_87, e_MorningsReader_beginStep_146, qw, n15, n18, qp, q6]
        exact hq
      · have hq : BgP T n p s w 1 (mset (mset (mset s 70 (s 69 2) w) 69 2 (s 69 2 + 1)) 69 1 (s 69 1 + 1)) := ⟨fun _ h => absurd cp h, fun _ h => absurd h c30, fun h => absurd h co, fun h => absurd h co, fun _ _ => ⟨rfl, rfl⟩⟩
        simp (disch := first | assumption | omega) only [rn, wk, al, wr_e, td_e, tm_e, mset_eq, mset_ne, if_pos, if_neg, Int.reduceAdd, Int.reduceSub, Int.reduceMul, Int.reduceNeg, Int.reduceLT, Int.reduceLE, Int.reduceEq, Int.cast_ofNat_Int, eq_self, and_true, true_and, ite_self, true_or, or_true, false_or, or_false, and_false, false_and, not_true_eq_false, not_false_eq_true, if_true, if_false, e_MorningsReader_beginStep_0, e_MorningsReader_beginStep_20, e_MorningsReader_beginStep_24, e_MorningsReader_beginStep_25, e_MorningsReader_beginStep_46, e_MorningsReader_beginStep_65, e_MorningsReader_beginStep_87, e_MorningsReader_beginStep_146, qw, n15, n18, qp]
        exact hq
    · have qp := q_isPlain0 d w s cp
      have hq : BgP T n p s w 0 (mset (mset s 7 8 (flt T n p 2)) 7 9 (tkq T n p)) := ⟨fun _ _ => ⟨rfl, rfl⟩, fun h => by rcases h with h | h; exact absurd h co; exact absurd h cp, fun h => absurd h co, fun h => absurd h co, fun h => absurd h cp⟩
      simp (disch := first | assumption | omega) only [rn, wk, al, wr_e, td_e, tm_e, mset_eq, mset_ne, if_pos, if_neg, Int.reduceAdd, Int.reduceSub, Int.reduceMul, Int.reduceNeg, Int.reduceLT, Int.reduceLE, Int.reduceEq, Int.cast_ofNat_Int, eq_self, and_true, true_and, ite_self, true_or, or_true, false_or, or_false, and_false, false_and, not_true_eq_false, not_false_eq_true, if_true, if_false, e_MorningsReader_beginStep_0, e_MorningsReader_beginStep_20, e_MorningsReader_beginStep_24, e_MorningsReader_beginStep_25, e_MorningsReader_beginStep_46, e_MorningsReader_beginStep_65, e_MorningsReader_beginStep_87, e_MorningsReader_beginStep_146, qw, n15, n18, qp, q2]
      exact hq
theorem q_readEnd1 (d : Nat) (s : Mem) (l : Int) (hm : 0 ≤ s 69 2 ∧ s 69 2 < 60) (he : 0 < s 10 2 ∧ s 10 2 ≤ 3) (hl : s 11 (s 10 2 - 1) = l) (hlb : 0 ≤ l ∧ l < 60) : sem (d + 1) 73 [10, 69] s = some (1, mset (mset (mset (mset (mset s 10 2 (s 10 2 - 1)) 70 (s 69 2) 19) 76 (s 69 2) l) 76 l (s 69 2)) 69 2 (s 69 2 + 1)) := by
  apply CV_eq; apply c_MorningsReader_readEnd
  simp (disch := first | assumption | omega) only [rn, wk, al, wr_e, td_e, tm_e, mset_eq, mset_ne, if_pos, if_neg, Int.reduceAdd, Int.reduceSub, Int.reduceMul, Int.reduceNeg, Int.reduceLT, Int.reduceLE, Int.reduceEq, Int.cast_ofNat_Int, eq_self, and_true, true_and, ite_self, true_or, or_true, false_or, or_false, and_false, false_and, not_true_eq_false, not_false_eq_true, if_true, if_false, e_MorningsReader_readEnd_0, e_MorningsReader_readEnd_16, hl]
theorem q_readEnd0 (d : Nat) {T : Int → Int} {n p : Int} {s : Mem} (hk : TkC T n p s) (he : s 10 2 = 0) : sem (d + 2) 73 [10, 69] s = some (0, mset (mset s 7 8 (flt T n p 2)) 7 9 (tkq T n p)) := by
  have q2 := q_Trefuse d s 2 hk
  apply CV_eq; apply c_MorningsReader_readEnd
  simp (disch := first | assumption | omega) only [rn, wk, al, wr_e, td_e, tm_e, mset_eq, mset_ne, if_pos, if_neg, Int.reduceAdd, Int.reduceSub, Int.reduceMul, Int.reduceNeg, Int.reduceLT, Int.reduceLE, Int.reduceEq, Int.cast_ofNat_Int, eq_self, and_true, true_and, ite_self, true_or, or_true, false_or, or_false, and_false, false_and, not_true_eq_false, not_false_eq_true, if_true, if_false, e_MorningsReader_readEnd_0, e_MorningsReader_readEnd_16, he, q2]
