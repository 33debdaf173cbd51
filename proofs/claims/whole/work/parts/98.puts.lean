/-! ===== H2: the reference puts calls into its sums ===== -/
/-- the reference's slot and its table tell of the hall A -/
def RB (A s : Mem) : Prop := VB A ∧ RC A (s 138) ∧ RS A (s 138) ∧ RLc A (s 138) ∧ NF A (s 146)
theorem RB_congr {A s u : Mem} (h1 : u 138 = s 138) (h2 : u 146 = s 146) (h : RB A s) : RB A u := by
  unfold RB at h ⊢; rw [h1, h2]; exact h
theorem nf_d {A s : Mem} (h : RB A s) {c p : Int} (hc : 0 ≤ c ∧ c < A 0 4) (hp : 0 ≤ p ∧ p < A 0 1) : s 138 (54 + 11 * c) = A 6 c ∧ (0 ≤ A 6 c ∧ A 6 c < 7) ∧ ((dP A c p = 10000000 ∧ s 146 (7 * A 6 c + p) = 1000000) ∨ ∃ x y, dP A c p = 1000 * x + y ∧ s 146 (7 * A 6 c + p) = 100 * x + y ∧ (0 ≤ x ∧ x ≤ 54) ∧ (0 ≤ y ∧ y ≤ 54)) := by
  obtain ⟨hv, -, -, hl, hn⟩ := h
  have h2 := hv.2.2.1 c hc
  have h1 := hv.1
  unfold VC at h1
  exact ⟨(hl c hc).1, by omega, hn (A 6 c) p h2.1 hp⟩
theorem q_loudAt (d : Nat) (A s : Mem) (h : RB A s) (c y i p : Int) (hc : 0 ≤ c ∧ c < A 0 4) (hy : 0 ≤ y ∧ y < A 7 c) (hi : 0 ≤ i ∧ i < 3) (hp : 0 ≤ p ∧ p < A 0 1) : sem (d + 3) 303 [137, c, y, i, p] s = some (aP A (3 * c + y) p i, s) := by
  apply CV_eq; apply c_R_loudAt
  obtain ⟨e0, e1, e2⟩ := nf_d h hc hp
  obtain ⟨hv, -, -, hl, -⟩ := h
  have h1 := hv.1
  unfold VC at h1
  have hl1 := (hl c hc).2.2 y i hy hi
  have hv1 := (hv.2.2.1 c hc)
  have hv2 := hv1.2.2 y i hy hi
  have hv3 := hv1.2.1
  have e3 : (3 * c + y) / 3 = c := by omega
  have e4 : 3 * (3 * c + y) + i = 9 * c + 3 * y + i := by omega
  unfold aP
  rw [e3, e4]
  rcases e2 with ⟨q1, q2⟩ | ⟨a, b, q1, q2, q3, q4⟩
  · simp (disch := first | assumption | omega) only [rn, wk, al, wr_e, td_e, tm_e, mset_eq, mset_ne, if_pos, if_neg, Int.reduceAdd, Int.reduceSub, Int.reduceMul, Int.reduceNeg, Int.reduceLT, Int.reduceLE, Int.reduceEq, Int.cast_ofNat_Int, eq_self, and_true, true_and, ite_self, true_or, or_true, false_or, or_false, and_false, false_and, not_true_eq_false, not_false_eq_true, if_true, if_false, e_R_loudAt_0, e_R_loudAt_34, e_R_loudAt_51, q_callerRow, e0, q2, q1]
  · have e5 : (100 * a + b) % 100 = b := by omega
    have e6 : (1000 * a + b) % 1000 = b := by omega
    simp (disch := first | assumption | omega) only [rn, wk, al, wr_e, td_e, tm_e, mset_eq, mset_ne, if_pos, if_neg, Int.reduceAdd, Int.reduceSub, Int.reduceMul, Int.reduceNeg, Int.reduceLT, Int.reduceLE, Int.reduceEq, Int.cast_ofNat_Int, eq_self, and_true, true_and, ite_self, true_or, or_true, false_or, or_false, and_false, false_and, not_true_eq_false, not_false_eq_true, if_true, if_false, e_R_loudAt_0, e_R_loudAt_34, e_R_loudAt_51, q_callerRow, e0, q2, q1, q_RnumberOf, hl1, e5, e6]
theorem q_behindAt (d : Nat) (A s : Mem) (h : RB A s) (c p : Int) (hc : 0 ≤ c ∧ c < A 0 4) (hp : 0 ≤ p ∧ p < A 0 1) (hd : dP A c p < 10000000) : sem (d + 2) 304 [137, c, p] s = some (dP A c p / 1000, s) := by
  apply CV_eq; apply c_R_behindAt
  obtain ⟨e0, e1, e2⟩ := nf_d h hc hp
  have h1 := h.1.1
  unfold VC at h1
  rcases e2 with ⟨q1, q2⟩ | ⟨a, b, q1, q2, q3, q4⟩
  · omega
  · simp (disch := first | assumption | omega) only [rn, wk, al, wr_e, td_e, tm_e, mset_eq, mset_ne, if_pos, if_neg, Int.reduceAdd, Int.reduceSub, Int.reduceMul, Int.reduceNeg, Int.reduceLT, Int.reduceLE, Int.reduceEq, Int.cast_ofNat_Int, eq_self, and_true, true_and, ite_self, true_or, or_true, false_or, or_false, and_false, false_and, not_true_eq_false, not_false_eq_true, if_true, if_false, e_R_behindAt_0, q_callerRow, e0, q2, q1]
    omega
def upf (f : Int → Int) (j v : Int) : Int → Int := fun k => if k = j then v else f k
theorem sg_upd (f : Int → Int) (g : Int → Int) (j v : Int) : ∀ (n : Nat) (lo : Int), sg (fun k => g (upf f j v k)) lo n = sg (fun k => g (f k)) lo n + if lo ≤ j ∧ j < lo + n then g v - g (f j) else 0 := by
  intro n
  induction n with
  | zero =>
    intro lo
    rw [if_neg (by omega)]; rfl
  | succ n ih =>
    intro lo
    show g (upf f j v lo) + sg (fun k => g (upf f j v k)) (lo + 1) n = g (f lo) + sg (fun k => g (f k)) (lo + 1) n + _
    rw [ih (lo + 1)]
    by_cases e : lo = j
    · subst e
      rw [if_neg (by omega), if_pos (by omega)]
      unfold upf; rw [if_pos rfl]; omega
    · have : upf f j v lo = f lo := by unfold upf; rw [if_neg e]
      rw [this]
      by_cases c : lo + 1 ≤ j ∧ j < lo + 1 + n
      · rw [if_pos c, if_pos (by omega)]; omega
      · rw [if_neg c, if_neg (by omega)]; omega
/-- 1 for what is above 0, below 0 -/
def p1_ (v : Int) : Int := if 0 < v then 1 else 0
def n1_ (v : Int) : Int := if v < 0 then 1 else 0
def cpos (f : Int → Int) : Int := sg (fun k => p1_ (f k)) 0 364
def cneg (f : Int → Int) : Int := sg (fun k => n1_ (f k)) 0 364
theorem cpos_b (f : Int → Int) : 0 ≤ cpos f ∧ cpos f ≤ 364 := by
  have := sg_bd (f := fun k => p1_ (f k)) (m := 1) 364 0 (fun i _ _ => by unfold p1_; split <;> omega)
  unfold cpos; omega
theorem cneg_b (f : Int → Int) : 0 ≤ cneg f ∧ cneg f ≤ 364 := by
  have := sg_bd (f := fun k => n1_ (f k)) (m := 1) 364 0 (fun i _ _ => by unfold n1_; split <;> omega)
  unfold cneg; omega
theorem cpos_upd (f : Int → Int) (j v : Int) (hj : 0 ≤ j ∧ j < 364) : cpos (upf f j v) = cpos f - p1_ (f j) + p1_ v := by
  unfold cpos; rw [sg_upd f p1_ j v 364 0, if_pos (by omega)]; omega
theorem cneg_upd (f : Int → Int) (j v : Int) (hj : 0 ≤ j ∧ j < 364) : cneg (upf f j v) = cneg f - n1_ (f j) + n1_ v := by
  unfold cneg; rw [sg_upd f n1_ j v 364 0, if_pos (by omega)]; omega
def LF (s : Mem) : Prop := s 137 26 = cpos (s 147) ∧ s 137 27 = cneg (s 147)
/-- all but the sums that are left, and their two counts, is as it was -/
def Fl (s u : Mem) : Prop := ∀ c i, c ≠ 147 → ¬ (c = 137 ∧ (i = 26 ∨ i = 27)) → u c i = s c i
theorem Fl_cell {s u : Mem} (h : Fl s u) {c : Int} (h1 : c ≠ 147) (h2 : c ≠ 137) : u c = s c := by
  funext i; exact h c i h1 (by omega)
theorem q_changes (d : Nat) (s : Mem) (j b : Int) (hj : 0 ≤ j ∧ j < 364) (hs : -1000000 ≤ s 147 j ∧ s 147 j ≤ 1000000) (hb : -1000000 ≤ b ∧ b ≤ 1000000) (hl : LF s) : CV (d + 1) 305 [137, j, b] s fun _ u => Fl s u ∧ u 147 = upf (s 147) j (s 147 j + b) ∧ LF u := by
  obtain ⟨l1, l2⟩ := hl
  have b1 := cpos_b (s 147)
  have b2 := cneg_b (s 147)
  have u1 := cpos_upd (s 147) j (s 147 j + b) hj
  have u2 := cneg_upd (s 147) j (s 147 j + b) hj
  have fin : ∀ u : Mem, Fl s u → u 147 = upf (s 147) j (s 147 j + b) → u 137 26 = s 137 26 - p1_ (s 147 j) + p1_ (s 147 j + b) → u 137 27 = s 137 27 - n1_ (s 147 j) + n1_ (s 147 j + b) → Fl s u ∧ u 147 = upf (s 147) j (s 147 j + b) ∧ LF u := by
    intro u h1 h2 h3 h4
    refine ⟨h1, h2, ?_, ?_⟩
    · rw [h2, u1, ← l1]; exact h3
    · rw [h2, u2, ← l2]; exact h4
  unfold p1_ n1_ at *
  apply c_R_changes
  by_cases c1 : 0 < s 147 j
  · by_cases c2 : 0 < s 147 j + b
    · simp (disch := first | assumption | omega) only [rn, wk, al, wr_e, td_e, tm_e, mset_eq, mset_ne, if_pos, if_neg, Int.reduceAdd, Int.reduceSub, Int.reduceMul, Int.reduceNeg, Int.reduceLT, Int.reduceLE, Int.reduceEq, Int.cast_ofNat_Int, eq_self, and_true, true_and, ite_self, true_or, or_true, false_or, or_false, and_false, false_and, not_true_eq_false, not_false_eq_true, if_true, if_false, e_R_changes_0, e_R_changes_22, e_R_changes_41, e_R_changes_73, e_R_changes_92]
      refine fin _ ?_ ?_ ?_ ?_
      · intro c i x y; simp (disch := omega) only [mset_ne]
      · funext i; unfold upf; by_cases e : i = j
        · subst e; simp (disch := omega) only [mset_eq, mset_ne, if_true]
        · simp (disch := omega) only [mset_ne, if_neg]
      · simp (disch := omega) only [mset_eq, mset_ne, if_pos, if_neg]; try omega
      · simp (disch := omega) only [mset_eq, mset_ne, if_pos, if_neg]; try omega
    · by_cases c3 : s 147 j + b < 0
      · simp (disch := first | assumption | omega) only [rn, wk, al, wr_e, td_e, tm_e, mset_eq, mset_ne, if_pos, if_neg, Int.reduceAdd, Int.reduceSub, Int.reduceMul, Int.reduceNeg, Int.reduceLT, Int.reduceLE, Int.reduceEq, Int.cast_ofNat_Int, eq_self, and_true, true_and, ite_self, true_or, or_true, false_or, or_false, and_false, false_and, not_true_eq_false, not_false_eq_true, if_true, if_false, e_R_changes_0, e_R_changes_22, e_R_changes_41, e_R_changes_73, e_R_changes_92]
        refine fin _ ?_ ?_ ?_ ?_
        · intro c i x y; simp (disch := omega) only [mset_ne]
        · funext i; unfold upf; by_cases e : i = j
          · subst e; simp (disch := omega) only [mset_eq, mset_ne, if_true]
          · simp (disch := omega) only [mset_ne, if_neg]
        · simp (disch := omega) only [mset_eq, mset_ne, if_pos, if_neg]; try omega
        · simp (disch := omega) only [mset_eq, mset_ne, if_pos, if_neg]; try omega
      · simp (disch := first | assumption | omega) only [rn, wk, al, wr_e, td_e, tm_e, mset_eq, mset_ne, if_pos, if_neg, Int.reduceAdd, Int.reduceSub, Int.reduceMul, Int.reduceNeg, Int.reduceLT, Int.reduceLE, Int.reduceEq, Int.cast_ofNat_Int, eq_self, and_true, true_and, ite_self, true_or, or_true, false_or, or_false, and_false, false_and, not_true_eq_false, not_false_eq_true, if_true, if_false, e_R_changes_0, e_R_changes_22, e_R_changes_41, e_R_changes_73, e_R_changes_92]
        refine fin _ ?_ ?_ ?_ ?_
        · intro c i x y; simp (disch := omega) only [mset_ne]
        · funext i; unfold upf; by_cases e : i = j
          · subst e; simp (disch := omega) only [mset_eq, mset_ne, if_true]
          · simp (disch := omega) only [mset_ne, if_neg]
        · simp (disch := omega) only [mset_eq, mset_ne, if_pos, if_neg]; try omega
        · simp (disch := omega) only [mset_eq, mset_ne, if_pos, if_neg]; try omega
  · by_cases c4 : s 147 j < 0
    · by_cases c2 : 0 < s 147 j + b
      · simp (disch := first | assumption | omega) only [rn, wk, al, wr_e, td_e, tm_e, mset_eq, mset_ne, if_pos, if_neg, Int.reduceAdd, Int.reduceSub, Int.reduceMul, Int.reduceNeg, Int.reduceLT, Int.reduceLE, Int.reduceEq, Int.cast_ofNat_Int, eq_self, and_true, true_and, ite_self, true_or, or_true, false_or, or_false, and_false, false_and, not_true_eq_false, not_false_eq_true, if_true, if_false, e_R_changes_0, e_R_changes_22, e_R_changes_41, e_R_changes_73, e_R_changes_92]
        refine fin _ ?_ ?_ ?_ ?_
        · intro c i x y; simp (disch := omega) only [mset_ne]
        · funext i; unfold upf; by_cases e : i = j
          · subst e; simp (disch := omega) only [mset_eq, mset_ne, if_true]
          · simp (disch := omega) only [mset_ne, if_neg]
        · simp (disch := omega) only [mset_eq, mset_ne, if_pos, if_neg]; try omega
        · simp (disch := omega) only [mset_eq, mset_ne, if_pos, if_neg]; try omega
      · by_cases c3 : s 147 j + b < 0
        · simp (disch := first | assumption | omega) only [rn, wk, al, wr_e, td_e, tm_e, mset_eq, mset_ne, if_pos, if_neg, Int.reduceAdd, Int.reduceSub, Int.reduceMul, Int.reduceNeg, Int.reduceLT, Int.reduceLE, Int.reduceEq, Int.cast_ofNat_Int, eq_self, and_true, true_and, ite_self, true_or, or_true, false_or, or_false, and_false, false_and, not_true_eq_false, not_false_eq_true, if_true, if_false, e_R_changes_0, e_R_changes_22, e_R_changes_41, e_R_changes_73, e_R_changes_92]
          refine fin _ ?_ ?_ ?_ ?_
          · intro c i x y; simp (disch := omega) only [mset_ne]
          · funext i; unfold upf; by_cases e : i = j
            · subst e; simp (disch := omega) only [mset_eq, mset_ne, if_true]
            · simp (disch := omega) only [mset_ne, if_neg]
          · simp (disch := omega) only [mset_eq, mset_ne, if_pos, if_neg]; try omega
          · simp (disch := omega) only [mset_eq, mset_ne, if_pos, if_neg]; try omega
        · simp (disch := first | assumption | omega) only [rn, wk, al, wr_e, td_e, tm_e, mset_eq, mset_ne, if_pos, if_neg, Int.reduceAdd, Int.reduceSub, Int.reduceMul, Int.reduceNeg, Int.reduceLT, Int.reduceLE, Int.reduceEq, Int.cast_ofNat_Int, eq_self, and_true, true_and, ite_self, true_or, or_true, false_or, or_false, and_false, false_and, not_true_eq_false, not_false_eq_true, if_true, if_false, e_R_changes_0, e_R_changes_22, e_R_changes_41, e_R_changes_73, e_R_changes_92]
          refine fin _ ?_ ?_ ?_ ?_
          · intro c i x y; simp (disch := omega) only [mset_ne]
          · funext i; unfold upf; by_cases e : i = j
            · subst e; simp (disch := omega) only [mset_eq, mset_ne, if_true]
            · simp (disch := omega) only [mset_ne, if_neg]
          · simp (disch := omega) only [mset_eq, mset_ne, if_pos, if_neg]; try omega
          · simp (disch := omega) only [mset_eq, mset_ne, if_pos, if_neg]; try omega
    · by_cases c2 : 0 < s 147 j + b
      · simp (disch := first | assumption | omega) only [rn, wk, al, wr_e, td_e, tm_e, mset_eq, mset_ne, if_pos, if_neg, Int.reduceAdd, Int.reduceSub, Int.reduceMul, Int.reduceNeg, Int.reduceLT, Int.reduceLE, Int.reduceEq, Int.cast_ofNat_Int, eq_self, and_true, true_and, ite_self, true_or, or_true, false_or, or_false, and_false, false_and, not_true_eq_false, not_false_eq_true, if_true, if_false, e_R_changes_0, e_R_changes_22, e_R_changes_41, e_R_changes_73, e_R_changes_92]
        refine fin _ ?_ ?_ ?_ ?_
        · intro c i x y; simp (disch := omega) only [mset_ne]
        · funext i; unfold upf; by_cases e : i = j
          · subst e; simp (disch := omega) only [mset_eq, mset_ne, if_true]
          · simp (disch := omega) only [mset_ne, if_neg]
        · simp (disch := omega) only [mset_eq, mset_ne, if_pos, if_neg]; try omega
        · simp (disch := omega) only [mset_eq, mset_ne, if_pos, if_neg]; try omega
      · by_cases c3 : s 147 j + b < 0
        · simp (disch := first | assumption | omega) only [rn, wk, al, wr_e, td_e, tm_e, mset_eq, mset_ne, if_pos, if_neg, Int.reduceAdd, Int.reduceSub, Int.reduceMul, Int.reduceNeg, Int.reduceLT, Int.reduceLE, Int.reduceEq, Int.cast_ofNat_Int, eq_self, and_true, true_and, ite_self, true_or, or_true, false_or, or_false, and_false, false_and, not_true_eq_false, not_false_eq_true, if_true, if_false, e_R_changes_0, e_R_changes_22, e_R_changes_41, e_R_changes_73, e_R_changes_92]
          refine fin _ ?_ ?_ ?_ ?_
          · intro c i x y; simp (disch := omega) only [mset_ne]
          · funext i; unfold upf; by_cases e : i = j
            · subst e; simp (disch := omega) only [mset_eq, mset_ne, if_true]
            · simp (disch := omega) only [mset_ne, if_neg]
          · simp (disch := omega) only [mset_eq, mset_ne, if_pos, if_neg]; try omega
          · simp (disch := omega) only [mset_eq, mset_ne, if_pos, if_neg]; try omega
        · simp (disch := first | assumption | omega) only [rn, wk, al, wr_e, td_e, tm_e, mset_eq, mset_ne, if_pos, if_neg, Int.reduceAdd, Int.reduceSub, Int.reduceMul, Int.reduceNeg, Int.reduceLT, Int.reduceLE, Int.reduceEq, Int.cast_ofNat_Int, eq_self, and_true, true_and, ite_self, true_or, or_true, false_or, or_false, and_false, false_and, not_true_eq_false, not_false_eq_true, if_true, if_false, e_R_changes_0, e_R_changes_22, e_R_changes_41, e_R_changes_73, e_R_changes_92]
          refine fin _ ?_ ?_ ?_ ?_
          · intro c i x y; simp (disch := omega) only [mset_ne]
          · funext i; unfold upf; by_cases e : i = j
            · subst e; simp (disch := omega) only [mset_eq, mset_ne, if_true]
            · simp (disch := omega) only [mset_ne, if_neg]
          · simp (disch := omega) only [mset_eq, mset_ne, if_pos, if_neg]; try omega
          · simp (disch := omega) only [mset_eq, mset_ne, if_pos, if_neg]; try omega
