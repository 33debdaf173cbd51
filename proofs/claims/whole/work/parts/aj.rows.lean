/-! ===== H2: live, tests and rows ===== -/
def cmpf (o g t : Int) : Int := if g = 60 then (if o < t then 1 else 0) else if g = 62 then (if t < o then 1 else 0) else (if o = t then 1 else 0)
theorem cmpf_b (o g t : Int) : cmpf o g t = 0 ∨ cmpf o g t = 1 := by
  unfold cmpf
  repeat' split
  all_goals simp
theorem q_compares (d : Nat) (o g t : Int) (s : Mem) : sem (d + 1) 200 [o, g, t] s = some (cmpf o g t, s) := by
  apply CV_eq; apply c_Life_compares
  unfold cmpf
  by_cases c1 : g = 60
  · by_cases c2 : o < t
    · simp (disch := first | assumption | omega) only [rn, wk, al, wr_e, td_e, tm_e, mset_eq, mset_ne, if_pos, if_neg, Int.reduceAdd, Int.reduceSub, Int.reduceMul, Int.reduceNeg, Int.reduceLT, Int.reduceLE, Int.reduceEq, Int.cast_ofNat_Int, eq_self, and_true, true_and, ite_self, true_or, or_true, false_or, or_false, and_false, false_and, not_true_eq_false, not_false_eq_true, if_true, if_false, e_Life_compares_0, e_Life_compares_28, e_Life_compares_37, e_Life_compares_38, e_Life_compares_39, e_Life_compares_48, e_Life_compares_49, e_Life_compares_50, e_Life_compares_59, e_Life_compares_60, c1]
    · simp (disch := first | assumption | omega) only [rn, wk, al, wr_e, td_e, tm_e, mset_eq, mset_ne, if_pos, if_neg, Int.reduceAdd, Int.reduceSub, Int.reduceMul, Int.reduceNeg, Int.reduceLT, Int.reduceLE, Int.reduceEq, Int.cast_ofNat_Int, eq_self, and_true, true_and, ite_self, true_or, or_true, false_or, or_false, and_false, false_and, not_true_eq_false, not_false_eq_true, if_true, if_false, e_Life_compares_0, e_Life_compares_28, e_Life_compares_37, e_Life_compares_38, e_Life_compares_39, e_Life_compares_48, e_Life_compares_49, e_Life_compares_50, e_Life_compares_59, e_Life_compares_60, c1]
  · by_cases c3 : g = 62
    · by_cases c2 : t < o
      · simp (disch := first | assumption | omega) only [rn, wk, al, wr_e, td_e, tm_e, mset_eq, mset_ne, if_pos, if_neg, Int.reduceAdd, Int.reduceSub, Int.reduceMul, Int.reduceNeg, Int.reduceLT, Int.reduceLE, Int.reduceEq, Int.cast_ofNat_Int, eq_self, and_true, true_and, ite_self, true_or, or_true, false_or, or_false, and_false, false_and, not_true_eq_false, not_false_eq_true, if_true, if_false, e_Life_compares_0, e_Life_compares_28, e_Life_compares_37, e_Life_compares_38, e_Life_compares_39, e_Life_compares_48, e_Life_compares_49, e_Life_compares_50, e_Life_compares_59, e_Life_compares_60, c3]
      · simp (disch := first | assumption | omega) only [rn, wk, al, wr_e, td_e, tm_e, mset_eq, mset_ne, if_pos, if_neg, Int.reduceAdd, Int.reduceSub, Int.reduceMul, Int.reduceNeg, Int.reduceLT, Int.reduceLE, Int.reduceEq, Int.cast_ofNat_Int, eq_self, and_true, true_and, ite_self, true_or, or_true, false_or, or_false, and_false, false_and, not_true_eq_false, not_false_eq_true, if_true, if_false, e_Life_compares_0, e_Life_compares_28, e_Life_compares_37, e_Life_compares_38, e_Life_compares_39, e_Life_compares_48, e_Life_compares_49, e_Life_compares_50, e_Life_compares_59, e_Life_compares_60, c3]
    · by_cases c2 : o = t
      · simp (disch := first | assumption | omega) only [rn, wk, al, wr_e, td_e, tm_e, mset_eq, mset_ne, if_pos, if_neg, Int.reduceAdd, Int.reduceSub, Int.reduceMul, Int.reduceNeg, Int.reduceLT, Int.reduceLE, Int.reduceEq, Int.cast_ofNat_Int, eq_self, and_true, true_and, ite_self, true_or, or_true, false_or, or_false, and_false, false_and, not_true_eq_false, not_false_eq_true, if_true, if_false, e_Life_compares_0, e_Life_compares_28, e_Life_compares_37, e_Life_compares_38, e_Life_compares_39, e_Life_compares_48, e_Life_compares_49, e_Life_compares_50, e_Life_compares_59, e_Life_compares_60, c2]
      · simp (disch := first | assumption | omega) only [rn, wk, al, wr_e, td_e, tm_e, mset_eq, mset_ne, if_pos, if_neg, Int.reduceAdd, Int.reduceSub, Int.reduceMul, Int.reduceNeg, Int.reduceLT, Int.reduceLE, Int.reduceEq, Int.cast_ofNat_Int, eq_self, and_true, true_and, ite_self, true_or, or_true, false_or, or_false, and_false, false_and, not_true_eq_false, not_false_eq_true, if_true, if_false, e_Life_compares_0, e_Life_compares_28, e_Life_compares_37, e_Life_compares_38, e_Life_compares_39, e_Life_compares_48, e_Life_compares_49, e_Life_compares_50, e_Life_compares_59, e_Life_compares_60]
/-- the last part of the reference's test -/
theorem hold_80 (d : Nat) (r z2 z3 v g t : Int) (w : Mem) (hr : 0 ≤ r ∧ r < 60) (h5 : w 138 (505 + 6 * r) = g) (h2 : w 138 (502 + 6 * r) = t) (Q : Int → Mem → Prop) (hQ : Q (cmpf v g t) w) : ∀ z4, EV d o_R_holds 80 [v] [137, 500 + 6 * r, z2, z3, z4] w Q := by
  intro z4
  have e5 : 500 + 6 * r + 5 = 505 + 6 * r := by omega
  have e2 : 500 + 6 * r + 2 = 502 + 6 * r := by omega
  unfold cmpf at hQ
  rw [e_R_holds_80]
  by_cases c1 : g = 60
  · rw [if_pos c1] at hQ
    by_cases c2 : v < t
    · rw [if_pos c2] at hQ
      simp (disch := first | assumption | omega) only [rn, wk, al, wr_e, td_e, tm_e, mset_eq, mset_ne, if_pos, if_neg, Int.reduceAdd, Int.reduceSub, Int.reduceMul, Int.reduceNeg, Int.reduceLT, Int.reduceLE, Int.reduceEq, Int.cast_ofNat_Int, eq_self, and_true, true_and, ite_self, true_or, or_true, false_or, or_false, and_false, false_and, not_true_eq_false, not_false_eq_true, if_true, if_false, e_R_holds_0, e_R_holds_50, e_R_holds_51, e_R_holds_52, e_R_holds_74, e_R_holds_80, e_R_holds_112, e_R_holds_116, e_R_holds_146, e_R_holds_150, e_R_holds_167, e_R_holds_168, e5, e2, h5, h2, c1]
      exact hQ
    · rw [if_neg c2] at hQ
      simp (disch := first | assumption | omega) only [rn, wk, al, wr_e, td_e, tm_e, mset_eq, mset_ne, if_pos, if_neg, Int.reduceAdd, Int.reduceSub, Int.reduceMul, Int.reduceNeg, Int.reduceLT, Int.reduceLE, Int.reduceEq, Int.cast_ofNat_Int, eq_self, and_true, true_and, ite_self, true_or, or_true, false_or, or_false, and_false, false_and, not_true_eq_false, not_false_eq_true, if_true, if_false, e_R_holds_0, e_R_holds_50, e_R_holds_51, e_R_holds_52, e_R_holds_74, e_R_holds_80, e_R_holds_112, e_R_holds_116, e_R_holds_146, e_R_holds_150, e_R_holds_167, e_R_holds_168, e5, e2, h5, h2, c1]
      exact hQ
  · rw [if_neg c1] at hQ
    by_cases c3 : g = 62
    · rw [if_pos c3] at hQ
      by_cases c2 : t < v
      · rw [if_pos c2] at hQ
        simp (disch := first | assumption | omega) only [rn, wk, al, wr_e, td_e, tm_e, mset_eq, mset_ne, if_pos, if_neg, Int.reduceAdd, Int.reduceSub, Int.reduceMul, Int.reduceNeg, Int.reduceLT, Int.reduceLE, Int.reduceEq, Int.cast_ofNat_Int, eq_self, and_true, true_and, ite_self, true_or, or_true, false_or, or_false, and_false, false_and, not_true_eq_false, not_false_eq_true, if_true, if_false, e_R_holds_0, e_R_holds_50, e_R_holds_51, e_R_holds_52, e_R_holds_74, e_R_holds_80, e_R_holds_112, e_R_holds_116, e_R_holds_146, e_R_holds_150, e_R_holds_167, e_R_holds_168, e5, e2, h5, h2, c3]
        exact hQ
      · rw [if_neg c2] at hQ
        simp (disch := first | assumption | omega) only [rn, wk, al, wr_e, td_e, tm_e, mset_eq, mset_ne, if_pos, if_neg, Int.reduceAdd, Int.reduceSub, Int.reduceMul, Int.reduceNeg, Int.reduceLT, Int.reduceLE, Int.reduceEq, Int.cast_ofNat_Int, eq_self, and_true, true_and, ite_self, true_or, or_true, false_or, or_false, and_false, false_and, not_true_eq_false, not_false_eq_true, if_true, if_false, e_R_holds_0, e_R_holds_50, e_R_holds_51, e_R_holds_52, e_R_holds_74, e_R_holds_80, e_R_holds_112, e_R_holds_116, e_R_holds_146, e_R_holds_150, e_R_holds_167, e_R_holds_168, e5, e2, h5, h2, c3]
        exact hQ
    · rw [if_neg c3] at hQ
      by_cases c2 : v = t
      · rw [if_pos c2] at hQ
        simp (disch := first | assumption | omega) only [rn, wk, al, wr_e, td_e, tm_e, mset_eq, mset_ne, if_pos, if_neg, Int.reduceAdd, Int.reduceSub, Int.reduceMul, Int.reduceNeg, Int.reduceLT, Int.reduceLE, Int.reduceEq, Int.cast_ofNat_Int, eq_self, and_true, true_and, ite_self, true_or, or_true, false_or, or_false, and_false, false_and, not_true_eq_false, not_false_eq_true, if_true, if_false, e_R_holds_0, e_R_holds_50, e_R_holds_51, e_R_holds_52, e_R_holds_74, e_R_holds_80, e_R_holds_112, e_R_holds_116, e_R_holds_146, e_R_holds_150, e_R_holds_167, e_R_holds_168, e5, e2, h5, h2]
        exact hQ
      · rw [if_neg c2] at hQ
        simp (disch := first | assumption | omega) only [rn, wk, al, wr_e, td_e, tm_e, mset_eq, mset_ne, if_pos, if_neg, Int.reduceAdd, Int.reduceSub, Int.reduceMul, Int.reduceNeg, Int.reduceLT, Int.reduceLE, Int.reduceEq, Int.cast_ofNat_Int, eq_self, and_true, true_and, ite_self, true_or, or_true, false_or, or_false, and_false, false_and, not_true_eq_false, not_false_eq_true, if_true, if_false, e_R_holds_0, e_R_holds_50, e_R_holds_51, e_R_holds_52, e_R_holds_74, e_R_holds_80, e_R_holds_112, e_R_holds_116, e_R_holds_146, e_R_holds_150, e_R_holds_167, e_R_holds_168, e5, e2, h5, h2]
        exact hQ
def HoldR (h : Int) (s u : Mem) (b r' : Int) (w : Mem) : Prop := (r' = b ∧ Fr_ u w) ∧ HRu h s w
theorem q_holds (d : Nat) {h : Int} (hh : isH h) (s : Mem) (hV : Vh h s) (h1 : s (h + 12) 0 = 1) (r : Int) (hr : 0 ≤ r ∧ r < s (h + 12) 2) (hw : s (h + 12 + 1) r = 15) : ∃ b, (b = 0 ∨ b = 1) ∧ sem (d + 5) 199 [12, h, h + 12, r] s = some (b, s) ∧ ∀ d' u, HRu h s u → (1500 ≤ u 138 (500 + 6 * r) ∧ u 138 (500 + 6 * r) ≤ 1520) ∧ u 138 (504 + 6 * r) = s (h + 19) r ∧ CV (d' + 8) 363 [137, 500 + 6 * r] u (HoldR h s u b) := by
  have hu37 : 37 ≤ h ∧ h ≤ 117 := by unfold isH at hh; omega
  obtain ⟨v, hv⟩ := id hV
  obtain ⟨v1, v2, -⟩ := HRu_v hv h1
  obtain ⟨c0, -⟩ := HRu_c hv
  have a13 : h + 12 + 1 = h + 13 := by omega
  have a14 : h + 12 + 2 = h + 14 := by omega
  have a15 : h + 12 + 3 = h + 15 := by omega
  have a16 : h + 12 + 4 = h + 16 := by omega
  have a17 : h + 12 + 5 = h + 17 := by omega
  have a18 : h + 12 + 6 = h + 18 := by omega
  have hw' : win s h 13 r = 15 := by rw [a13] at hw; exact hw
  have e1 : 500 + 6 * r + 1 = 501 + 6 * r := by omega
  have e2 : 500 + 6 * r + 2 = 502 + 6 * r := by omega
  have e3 : 500 + 6 * r + 3 = 503 + 6 * r := by omega
  obtain ⟨x, hx⟩ : ∃ x, x = s (h + 15) r := ⟨_, rfl⟩
  obtain ⟨y, hy⟩ : ∃ y, y = s (h + 16) r := ⟨_, rfl⟩
  obtain ⟨g, hg⟩ : ∃ g, g = s (h + 17) r := ⟨_, rfl⟩
  obtain ⟨t, ht⟩ : ∃ t, t = s (h + 18) r := ⟨_, rfl⟩
  have hvr : (s (h + 14) r = 16 ∧ (0 ≤ x ∧ x < s h 3) ∧ (0 ≤ y ∧ y ≤ 90) ∧ (60 ≤ g ∧ g ≤ 62) ∧ (0 ≤ t ∧ t ≤ 999)) ∨ (s (h + 14) r = 6 ∧ (0 ≤ x ∧ x < s h 4) ∧ (0 ≤ y ∧ y < s h 1)) ∨ (s (h + 14) r = 17 ∧ (60 ≤ g ∧ g ≤ 62) ∧ (0 ≤ t ∧ t ≤ 8)) := by
    have q := v2 r hr
    unfold VR at q
    simp only [win0] at q
    rw [hx, hy, hg, ht]
    rcases q with ⟨q, -⟩ | ⟨q, -⟩ | q | ⟨-, -, q⟩ | ⟨q, -⟩ | ⟨q, -⟩
    · omega
    · omega
    · omega
    · exact q
    · omega
    · omega
  have w3' : s (h + 12 + 3) r = x := by rw [a15]; exact hx.symm
  have w4' : s (h + 12 + 4) r = y := by rw [a16]; exact hy.symm
  have w5' : s (h + 12 + 5) r = g := by rw [a17]; exact hg.symm
  have w6' : s (h + 12 + 6) r = t := by rw [a18]; exact ht.symm
  have rr : ∀ u, HRu h s u → u 138 (504 + 6 * r) = s (h + 19) r ∧ (s (h + 14) r = 16 → u 138 (500 + 6 * r) = 1519 ∧ u 138 (501 + 6 * r) = x ∧ u 138 (503 + 6 * r) = y ∧ u 138 (505 + 6 * r) = g ∧ u 138 (502 + 6 * r) = t) ∧ (s (h + 14) r = 6 → u 138 (500 + 6 * r) = 1509 ∧ u 138 (501 + 6 * r) = x ∧ u 138 (502 + 6 * r) = y) ∧ (s (h + 14) r = 17 → u 138 (500 + 6 * r) = 1520 ∧ u 138 (505 + 6 * r) = g ∧ u 138 (502 + 6 * r) = t) := fun u hu => by
    rw [hx, hy, hg, ht]
    exact ((HRu_r hu h1).2 r hr).2.2.2.2.2.2.1 hw'
  rcases hvr with ⟨k, k1, k2, k3, k4⟩ | ⟨k, k1, k2⟩ | ⟨k, k3, k4⟩
  · have w2' : s (h + 12 + 2) r = 16 := by rw [a14]; exact k
    have qs := q_sumAt d hh s x y (VB_of hv.1) (vKs_of hv) k1 k2
    have qc := q_compares (d + 3) (sb (win s h) x y) g t s
    have sbb := sb_ok (VB_of hv.1) (vKs_of hv) y (x := x) (by rw [win0]; exact k1)
    have cb := cmpf_b (sb (win s h) x y) g t
    refine ⟨cmpf (sb (win s h) x y) g t, cb, ?_, fun d' u hu => ?_⟩
    · apply CV_eq; apply c_Life_holds
      simp (disch := first | assumption | omega) only [rn, wk, al, wr_e, td_e, tm_e, mset_eq, mset_ne, if_pos, if_neg, Int.reduceAdd, Int.reduceSub, Int.reduceMul, Int.reduceNeg, Int.reduceLT, Int.reduceLE, Int.reduceEq, Int.cast_ofNat_Int, eq_self, and_true, true_and, ite_self, true_or, or_true, false_or, or_false, and_false, false_and, not_true_eq_false, not_false_eq_true, if_true, if_false, e_Life_holds_0, e_Life_holds_48, e_Life_holds_72, e_Life_holds_88, e_Life_holds_89, e_Life_holds_90, ah hh, w2', w3', w4', w5', w6', qs, qc]
    · obtain ⟨y0, y1, -⟩ := rr u hu
      obtain ⟨z0, z1, z2, z3, z4⟩ := y1 k
      refine ⟨by omega, y0, ?_⟩
      apply c_R_holds
      simp (disch := first | assumption | omega) only [rn, wk, al, wr_e, td_e, tm_e, mset_eq, mset_ne, if_pos, if_neg, Int.reduceAdd, Int.reduceSub, Int.reduceMul, Int.reduceNeg, Int.reduceLT, Int.reduceLE, Int.reduceEq, Int.cast_ofNat_Int, eq_self, and_true, true_and, ite_self, true_or, or_true, false_or, or_false, and_false, false_and, not_true_eq_false, not_false_eq_true, if_true, if_false, e_R_holds_0, e_R_holds_50, e_R_holds_51, e_R_holds_52, e_R_holds_74, e_R_holds_112, e_R_holds_116, e_R_holds_146, e_R_holds_150, e_R_holds_167, e_R_holds_168, e1, e3, z0, z1, z2]
      refine EV_call (CV_mono (a_sum s x y k1 k2 d' u hu) ?_)
      rintro r' w ⟨⟨w1, w2⟩, w3⟩
      subst w1
      have g138 : ∀ i, 500 ≤ i → w 138 i = u 138 i := fun i hi => w2 _ _ (by omega) (by omega) (by omega) (by omega)
      have hq := hold_80 (d' + 7) r 19 x (sb (win s h) x y) g t w (by omega) (by rw [g138 _ (by omega)]; exact z3) (by rw [g138 _ (by omega)]; exact z4) (HoldR h s u (cmpf (sb (win s h) x y) g t)) ⟨⟨rfl, w2⟩, w3⟩ 0
      simp (disch := first | assumption | omega) only [rn, wk, al, wr_e, td_e, tm_e, mset_eq, mset_ne, if_pos, if_neg, Int.reduceAdd, Int.reduceSub, Int.reduceMul, Int.reduceNeg, Int.reduceLT, Int.reduceLE, Int.reduceEq, Int.cast_ofNat_Int, eq_self, and_true, true_and, ite_self, true_or, or_true, false_or, or_false, and_false, false_and, not_true_eq_false, not_false_eq_true, if_true, if_false]
      exact hq
  · have w2' : s (h + 12 + 2) r = 6 := by rw [a14]; exact k
    obtain ⟨b, hb⟩ : ∃ b : Int, b = if s (h + 6) x = y then 1 else 0 := ⟨_, rfl⟩
    have hb01 : b = 0 ∨ b = 1 := by rw [hb]; split <;> simp
    refine ⟨b, hb01, ?_, fun d' u hu => ?_⟩
    · apply CV_eq; apply c_Life_holds
      by_cases e : s (h + 6) x = y
      · rw [if_pos e] at hb
        simp (disch := first | assumption | omega) only [rn, wk, al, wr_e, td_e, tm_e, mset_eq, mset_ne, if_pos, if_neg, Int.reduceAdd, Int.reduceSub, Int.reduceMul, Int.reduceNeg, Int.reduceLT, Int.reduceLE, Int.reduceEq, Int.cast_ofNat_Int, eq_self, and_true, true_and, ite_self, true_or, or_true, false_or, or_false, and_false, false_and, not_true_eq_false, not_false_eq_true, if_true, if_false, e_Life_holds_0, e_Life_holds_48, e_Life_holds_72, e_Life_holds_88, e_Life_holds_89, e_Life_holds_90, ah hh, w2', w3', w4', e, hb]
      · rw [if_neg e] at hb
        simp (disch := first | assumption | omega) only [rn, wk, al, wr_e, td_e, tm_e, mset_eq, mset_ne, if_pos, if_neg, Int.reduceAdd, Int.reduceSub, Int.reduceMul, Int.reduceNeg, Int.reduceLT, Int.reduceLE, Int.reduceEq, Int.cast_ofNat_Int, eq_self, and_true, true_and, ite_self, true_or, or_true, false_or, or_false, and_false, false_and, not_true_eq_false, not_false_eq_true, if_true, if_false, e_Life_holds_0, e_Life_holds_48, e_Life_holds_72, e_Life_holds_88, e_Life_holds_89, e_Life_holds_90, ah hh, w2', w3', w4', hb]
    · obtain ⟨y0, -, y1, -⟩ := rr u hu
      obtain ⟨z0, z1, z2⟩ := y1 k
      have hl := HRu_l hu x k1
      refine ⟨by omega, y0, ?_⟩
      have hp : HoldR h s u b b u := ⟨⟨rfl, fun _ _ _ _ _ _ => rfl⟩, hu⟩
      apply c_R_holds
      by_cases e : s (h + 6) x = y
      · rw [if_pos e] at hb
        rw [hb] at hp ⊢
        simp (disch := first | assumption | omega) only [rn, wk, al, wr_e, td_e, tm_e, mset_eq, mset_ne, if_pos, if_neg, Int.reduceAdd, Int.reduceSub, Int.reduceMul, Int.reduceNeg, Int.reduceLT, Int.reduceLE, Int.reduceEq, Int.cast_ofNat_Int, eq_self, and_true, true_and, ite_self, true_or, or_true, false_or, or_false, and_false, false_and, not_true_eq_false, not_false_eq_true, if_true, if_false, e_R_holds_0, e_R_holds_50, e_R_holds_51, e_R_holds_52, e_R_holds_74, e_R_holds_80, e_R_holds_112, e_R_holds_116, e_R_holds_146, e_R_holds_150, e_R_holds_167, e_R_holds_168, e1, e2, z0, z1, z2, q_callerRow, hl.2.2.1, e]
        exact hp
      · rw [if_neg e] at hb
        rw [hb] at hp ⊢
        simp (disch := first | assumption | omega) only [rn, wk, al, wr_e, td_e, tm_e, mset_eq, mset_ne, if_pos, if_neg, Int.reduceAdd, Int.reduceSub, Int.reduceMul, Int.reduceNeg, Int.reduceLT, Int.reduceLE, Int.reduceEq, Int.cast_ofNat_Int, eq_self, and_true, true_and, ite_self, true_or, or_true, false_or, or_false, and_false, false_and, not_true_eq_false, not_false_eq_true, if_true, if_false, e_R_holds_0, e_R_holds_50, e_R_holds_51, e_R_holds_52, e_R_holds_74, e_R_holds_80, e_R_holds_112, e_R_holds_116, e_R_holds_146, e_R_holds_150, e_R_holds_167, e_R_holds_168, e1, e2, z0, z1, z2, q_callerRow, hl.2.2.1]
        exact hp
  · have w2' : s (h + 12 + 2) r = 17 := by rw [a14]; exact k
    have qc := q_compares (d + 3) (s h 5) g t s
    have cb := cmpf_b (s h 5) g t
    refine ⟨cmpf (s h 5) g t, cb, ?_, fun d' u hu => ?_⟩
    · apply CV_eq; apply c_Life_holds
      simp (disch := first | assumption | omega) only [rn, wk, al, wr_e, td_e, tm_e, mset_eq, mset_ne, if_pos, if_neg, Int.reduceAdd, Int.reduceSub, Int.reduceMul, Int.reduceNeg, Int.reduceLT, Int.reduceLE, Int.reduceEq, Int.cast_ofNat_Int, eq_self, and_true, true_and, ite_self, true_or, or_true, false_or, or_false, and_false, false_and, not_true_eq_false, not_false_eq_true, if_true, if_false, e_Life_holds_0, e_Life_holds_48, e_Life_holds_72, e_Life_holds_88, e_Life_holds_89, e_Life_holds_90, ah hh, w2', w3', w4', w5', w6', qc]
    · obtain ⟨y0, -, -, y1⟩ := rr u hu
      obtain ⟨z0, z1, z2⟩ := y1 k
      have e4 : u 138 4 = s h 5 := by have := (HRu_c hu).2; omega
      refine ⟨by omega, y0, ?_⟩
      apply c_R_holds
      have hq := hold_80 (d' + 7) r 20 (u 138 (501 + 6 * r)) (s h 5) g t u (by omega) z1 z2 (HoldR h s u (cmpf (s h 5) g t)) ⟨⟨rfl, fun _ _ _ _ _ _ => rfl⟩, hu⟩ 0
      simp (disch := first | assumption | omega) only [rn, wk, al, wr_e, td_e, tm_e, mset_eq, mset_ne, if_pos, if_neg, Int.reduceAdd, Int.reduceSub, Int.reduceMul, Int.reduceNeg, Int.reduceLT, Int.reduceLE, Int.reduceEq, Int.cast_ofNat_Int, eq_self, and_true, true_and, ite_self, true_or, or_true, false_or, or_false, and_false, false_and, not_true_eq_false, not_false_eq_true, if_true, if_false, e_R_holds_0, e_R_holds_50, e_R_holds_51, e_R_holds_52, e_R_holds_74, e_R_holds_112, e_R_holds_116, e_R_holds_146, e_R_holds_150, e_R_holds_167, e_R_holds_168, e1, z0, e4]
      exact hq
/-! the rows -/
def Opn (h : Int) (s : Mem) (r n : Int) : Prop := (0 ≤ n ∧ n < r) ∧ s (h + 13) n = 18 ∧ r ≤ s (h + 19) n
def NE_ (h : Int) (s : Mem) (r : Int) : Prop := ¬ (s (h + 13) r = 19 ∧ s (h + 19) r = r - 1 ∧ s (h + 13) (r - 1) = 18)
def Fcl (h : Int) (s t : Mem) : Prop := ∀ c i, ¬ (c = 12 ∨ c = 13 ∨ (h ≤ c ∧ c ≤ h + 10)) → t c i = s c i
def Frl (u0 u : Mem) : Prop := ∀ c i, c ≠ 146 → c ≠ 147 → c ≠ 152 → c ≠ 153 → ¬ (c = 137 ∧ (i = 26 ∨ i = 27 ∨ i = 41 ∨ i = 42)) → ¬ (c = 138 ∧ i < 500) → u c i = u0 c i
def Lps (h : Int) (s u : Mem) (r : Int) : Prop := ∀ n, Opn h s r n → s 13 n = u 152 n + 1
/-- both runs stand at the row r -/
def Rel (h : Int) (u0 s u : Mem) (r : Int) : Prop := HRu h s u ∧ Cnt s u (u 153 0) ∧ Lps h s u r ∧ Frl u0 u
/-- the class's run at the row r -/
def CI_ (h : Int) (s : Mem) (r : Int) : Prop := Vh h s ∧ s (h + 12) 0 = 1 ∧ (0 ≤ r ∧ r ≤ s (h + 12) 2) ∧ (0 ≤ s 12 0 ∧ s 12 0 ≤ 300) ∧ (∀ j, 1 ≤ j → j ≤ 4 → 0 ≤ s 12 j ∧ s 12 j ≤ s 12 0) ∧ (0 ≤ s 12 6 ∧ s 12 6 < 65536) ∧ (∀ n, Opn h s r n → 1 ≤ s 13 n ∧ s 13 n ≤ 99) ∧ NE_ h s r
def pot (h : Int) (s : Mem) (r : Int) : Int := 130 * (301 - s 12 0) + (if s (h + 13) r = 19 then 65 else 0) + (60 - r)
def GoB (d' : Nat) (sd r : Int) (u : Mem) (F : Int → Mem → Prop) : Prop := ∀ f0 z z', EV (d' + 9) o_R_behindEnds 2 [] [137, f0, r, z, z'] u (fun r2 w => ∀ z3, EV (d' + 10) o_R_lives 32 [] [137, sd, r2, z3] w F)
def Sim (d' : Nat) (sd h : Int) (s : Mem) (r : Int) (s1 : Mem) (q : Int) : Prop := ∀ u0 u F, Rel h u0 s u r → (∀ u1, Rel h u0 s1 u1 q → GoB d' sd q u1 F) → GoB d' sd r u F
def Stp_ (d' : Nat) (sd h : Int) (s : Mem) (r q : Int) (s1 : Mem) : Prop := Fcl h s s1 ∧ CI_ h s1 q ∧ pot h s1 q < pot h s r ∧ Sim d' sd h s r s1 q
theorem Opn_congr {h : Int} {s t : Mem} {r n : Int} (hf : Fcl h s t) (hh : isH h) : Opn h t r n ↔ Opn h s r n := by
  have hu37 : 37 ≤ h ∧ h ≤ 117 := by unfold isH at hh; omega
  unfold Opn
  rw [hf (h + 13) n (by omega), hf (h + 19) n (by omega)]
theorem NE_congr {h : Int} {s t : Mem} {r : Int} (hf : Fcl h s t) (hh : isH h) : NE_ h t r ↔ NE_ h s r := by
  have hu37 : 37 ≤ h ∧ h ≤ 117 := by unfold isH at hh; omega
  unfold NE_
  rw [hf (h + 13) r (by omega), hf (h + 19) r (by omega), hf (h + 13) (r - 1) (by omega)]
theorem rl_out (d' : Nat) (sd r : Int) (u : Mem) (F : Int → Mem → Prop) (hb : 0 ≤ r) (h7 : u 138 7 ≤ r) (hF : F 0 u) : GoB d' sd r u F := by
  intro f0 z z'
  have hl : ∀ z3, EV (d' + 10) o_R_lives 32 [] [137, sd, r, z3] u F := fun z3 => by
    rw [e_R_lives_32]
    simp (disch := first | assumption | omega) only [rn, wk, al, wr_e, td_e, tm_e, mset_eq, mset_ne, if_pos, if_neg, Int.reduceAdd, Int.reduceSub, Int.reduceMul, Int.reduceNeg, Int.reduceLT, Int.reduceLE, Int.reduceEq, Int.cast_ofNat_Int, eq_self, and_true, true_and, ite_self, true_or, or_true, false_or, or_false, and_false, false_and, not_true_eq_false, not_false_eq_true, if_true, if_false, e_R_lives_0, e_R_lives_30, e_R_lives_61, e_R_lives_92, e_R_lives_111, e_R_lives_112, e_R_lives_141, e_R_lives_175, e_R_lives_178, e_R_lives_185]
    exact hF
  rw [e_R_behindEnds_2]
  simp (disch := first | assumption | omega) only [rn, wk, al, wr_e, td_e, tm_e, mset_eq, mset_ne, if_pos, if_neg, Int.reduceAdd, Int.reduceSub, Int.reduceMul, Int.reduceNeg, Int.reduceLT, Int.reduceLE, Int.reduceEq, Int.cast_ofNat_Int, eq_self, and_true, true_and, ite_self, true_or, or_true, false_or, or_false, and_false, false_and, not_true_eq_false, not_false_eq_true, if_true, if_false, e_R_behindEnds_0, e_R_behindEnds_78, e_R_behindEnds_79, e_R_behindEnds_97, e_R_behindEnds_98, e_R_behindEnds_111, e_R_behindEnds_114, e_R_behindEnds_118]
  exact hl
theorem rl_in (d' : Nat) (sd r : Int) (u : Mem) (F : Int → Mem → Prop) (hb : 0 ≤ r ∧ r < 60) (h7 : r < u 138 7) (hc : u 138 (500 + 6 * r) ≠ 17) (hl : ∀ z3, EV (d' + 10) o_R_lives 32 [] [137, sd, r, z3] u F) : GoB d' sd r u F := by
  intro f0 z z'
  rw [e_R_behindEnds_2]
  simp (disch := first | assumption | omega) only [rn, wk, al, wr_e, td_e, tm_e, mset_eq, mset_ne, if_pos, if_neg, Int.reduceAdd, Int.reduceSub, Int.reduceMul, Int.reduceNeg, Int.reduceLT, Int.reduceLE, Int.reduceEq, Int.cast_ofNat_Int, eq_self, and_true, true_and, ite_self, true_or, or_true, false_or, or_false, and_false, false_and, not_true_eq_false, not_false_eq_true, if_true, if_false, e_R_behindEnds_0, e_R_behindEnds_78, e_R_behindEnds_79, e_R_behindEnds_97, e_R_behindEnds_98, e_R_behindEnds_111, e_R_behindEnds_114, e_R_behindEnds_118]
  exact hl
/-- the words of a row -/
theorem Rw_ {h : Int} {s u : Mem} (hu : HRu h s u) (h1 : s (h + 12) 0 = 1) {r : Int} (hr : 0 ≤ r ∧ r < s (h + 12) 2) : (s (h + 13) r = 19 ∧ u 138 (500 + 6 * r) = 17) ∨ (s (h + 13) r = 20 ∧ u 138 (500 + 6 * r) = 18) ∨ (s (h + 13) r = 18 ∧ u 138 (500 + 6 * r) = 16) ∨ (s (h + 13) r = 15 ∧ 1500 ≤ u 138 (500 + 6 * r) ∧ u 138 (500 + 6 * r) ≤ 1520) ∨ ((10 ≤ s (h + 13) r ∧ s (h + 13) r ≤ 14) ∧ u 138 (500 + 6 * r) = s (h + 13) r) := by
  have q := (HRu_v hu h1).2.1 r hr
  have p := (HRu_r hu h1).2 r hr
  unfold VR at q
  unfold RR1 at p
  simp only [win] at q p
  obtain ⟨p10, p12, p11, p13, p14, p20, p15, p18, p19⟩ := p
  rcases q with ⟨q, -⟩ | ⟨q, -⟩ | q | ⟨q, -, q2⟩ | ⟨q, -⟩ | ⟨q, -⟩
  · have := (p10 q).1; omega
  · have := (p12 q).1; omega
  · rcases q with q | q | q | q
    · have := p11 q; omega
    · have := p13 q; omega
    · have := p14 q; omega
    · have := p20 q; omega
  · have p := p15 q
    rcases q2 with ⟨k, -⟩ | ⟨k, -⟩ | ⟨k, -⟩
    · have := (p.2.1 k).1; omega
    · have := (p.2.2.1 k).1; omega
    · have := (p.2.2.2 k).1; omega
  · have := (p18 q).1; omega
  · have := (p19 q).1; omega
