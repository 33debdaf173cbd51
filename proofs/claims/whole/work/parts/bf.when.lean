/-! ===== H2: mornings, tests of both ===== -/
theorem or_15 (D : Nat) (q : Int) (u : Mem) (G : Int → Mem → Prop) (h : CV (D + 6) 267 [137, q] u G) (h01 : ∀ r t, G r t → r = 0 ∨ r = 1) : CV (D + 7) 264 [137, 15, q] u G := by
  apply c_R_morningOrder
  simp (disch := first | assumption | omega) only [rn, wk, al, wr_e, td_e, tm_e, mset_eq, mset_ne, if_pos, if_neg, Int.reduceAdd, Int.reduceSub, Int.reduceMul, Int.reduceNeg, Int.reduceLT, Int.reduceLE, Int.reduceEq, Int.cast_ofNat_Int, eq_self, and_true, true_and, ite_self, true_or, or_true, false_or, or_false, and_false, false_and, not_true_eq_false, not_false_eq_true, if_true, if_false, e_R_morningOrder_0, e_R_morningOrder_44, e_R_morningOrder_83, e_R_morningOrder_84, e_R_morningOrder_85, e_R_morningOrder_109, e_R_morningOrder_110, e_R_morningOrder_111, e_R_morningOrder_122, e_R_morningOrder_128]
  refine EV_call (CV_mono h ?_)
  intro r t ht
  have := h01 r t ht
  simp (disch := first | assumption | omega) only [rn, wk, al, wr_e, td_e, tm_e, mset_eq, mset_ne, if_pos, if_neg, Int.reduceAdd, Int.reduceSub, Int.reduceMul, Int.reduceNeg, Int.reduceLT, Int.reduceLE, Int.reduceEq, Int.cast_ofNat_Int, eq_self, and_true, true_and, ite_self, true_or, or_true, false_or, or_false, and_false, false_and, not_true_eq_false, not_false_eq_true, if_true, if_false, e_R_morningOrder_0, e_R_morningOrder_44, e_R_morningOrder_83, e_R_morningOrder_84, e_R_morningOrder_85, e_R_morningOrder_109, e_R_morningOrder_110, e_R_morningOrder_111, e_R_morningOrder_122, e_R_morningOrder_128]
  exact ht
theorem NoR01 {u : Mem} {k f r : Int} {t : Mem} (h : NoR u k f r t) : r = 0 ∨ r = 1 := Or.inl h.1
theorem RgR01 {T : Int → Int} {n : Int} {s t u : Mem} {row w p' r : Int} {v : Mem} (h : RgR T n s t u row w p' r v) : r = 0 ∨ r = 1 := Or.inr h.1
/-- the class's test has failed -/
theorem w_no {D : Nat} {T : Int → Int} {n p1 : Int} {s t : Mem} {row k f : Int} (g8 : t 7 8 = k) (g9 : t 7 9 = f) (hk : 0 < k) (ff : ∀ c i, ¬ (c = 7 ∧ 3 ≤ i ∧ i ≤ 9) → ¬ (71 ≤ c ∧ c ≤ 75 ∧ i = row) → t c i = s c i) (ref : ∀ u, NmU s u → Rs_ T n p1 u → CV (D + 6) 267 [137, 3972 + 6 * row] u (NoR u k f)) : OrP D T n p1 s row 15 0 t := by
  refine Or.inr ⟨rfl, by rw [g8]; exact hk, ff, fun u hn hu _ => ?_⟩
  rw [g8, g9]
  exact or_15 D _ u _ (ref u hn hu) (fun r t h => NoR01 h)
theorem w_ok {D : Nat} {T : Int → Int} {n p1 p' : Int} {s t : Mem} {row : Int} (ff : ∀ c i, ¬ (c = 7 ∧ 3 ≤ i ∧ i ≤ 7) → ¬ (71 ≤ c ∧ c ≤ 75 ∧ i = row) → t c i = s c i) (hpp : p1 ≤ p') (hc : Cs T n p' t) (ref : ∀ u, NmU s u → Rs_ T n p1 u → CV (D + 6) 267 [137, 3972 + 6 * row] u (RgR T n s t u row 15 p')) : OrP D T n p1 s row 15 1 t := Or.inl ⟨rfl, ff, p', hpp, hc, fun u hn hu _ => or_15 D _ u _ (ref u hn hu) (fun r t h => RgR01 h)⟩
theorem c_when (d D : Nat) {T : Int → Int} {n p1 : Int} (hT : TX T n) {s : Mem} (hs : Cs T n p1 s) (row : Int) (hr : 0 ≤ row ∧ row < 60) (hc : NmC s) : CV (d + 5) 81 [10, 69, row, 37] s (OrP D T n p1 s row 15) := by
  obtain ⟨p2, h2⟩ : ∃ p2, p2 = tke T n p1 := ⟨_, rfl⟩
  obtain ⟨p3, h3⟩ : ∃ p3, p3 = tke T n p2 := ⟨_, rfl⟩
  obtain ⟨p4, h4⟩ : ∃ p4, p4 = tke T n p3 := ⟨_, rfl⟩
  obtain ⟨p5, h5⟩ : ∃ p5, p5 = tke T n p4 := ⟨_, rfl⟩
  obtain ⟨p6, h6⟩ : ∃ p6, p6 = tke T n p5 := ⟨_, rfl⟩
  obtain ⟨tb1, tb2, -⟩ := tke_b (T := T) hs.1
  have hs1 := hs.1
  obtain ⟨ub1, ub2, -⟩ := tke_b (T := T) (n := n) (p := p2) (by omega)
  obtain ⟨vb1, vb2, -⟩ := tke_b (T := T) (n := n) (p := p3) (by omega)
  obtain ⟨wb1, wb2, -⟩ := tke_b (T := T) (n := n) (p := p4) (by omega)
  obtain ⟨xb1, xb2, -⟩ := tke_b (T := T) (n := n) (p := p5) (by omega)
  have wb := wnT_b (T := T) (n := n) (p := p1)
  apply c_MorningsReader_readTest
  simp (disch := first | assumption | omega) only [rn, wk, al, wr_e, td_e, tm_e, mset_eq, mset_ne, if_pos, if_neg, Int.reduceAdd, Int.reduceSub, Int.reduceMul, Int.reduceNeg, Int.reduceLT, Int.reduceLE, Int.reduceEq, Int.cast_ofNat_Int, eq_self, and_true, true_and, ite_self, true_or, or_true, false_or, or_false, and_false, false_and, not_true_eq_false, not_false_eq_true, if_true, if_false, e_MorningsReader_readTest_0, e_MorningsReader_readTest_60, e_MorningsReader_readTest_107, e_MorningsReader_readTest_108, e_MorningsReader_readTest_109, e_MorningsReader_readTest_133, e_MorningsReader_readTest_134, e_MorningsReader_readTest_135, e_MorningsReader_readTest_160, e_MorningsReader_readTest_161, e_MorningsReader_readTest_162]
  refine EV_call (CV_mono (c_adv (d + 2) hT hs) ?_)
  rintro r0 t0 ⟨f0, k0, c0⟩
  rw [← h2] at c0
  have qw := q_Tword (d + 3) t0 k0
  obtain ⟨w, hw⟩ : ∃ w, w = (if tkk T n p1 = 1 then wnT T n p1 else -1) := ⟨_, rfl⟩
  rw [← hw] at qw
  have hwb : -1 ≤ w ∧ w ≤ 20 := by rw [hw]; split <;> omega
  obtain ⟨t1, ht1⟩ : ∃ t1, t1 = mset t0 71 row w := ⟨_, rfl⟩
  have t1f : ∀ c i, ¬ (c = 71 ∧ i = row) → t1 c i = t0 c i := fun c i h => by rw [ht1, mset_ne (by omega)]
  have t1v : t1 71 row = w := by rw [ht1, mset_eq rfl rfl]
  have t1s : ∀ c i, ¬ (c = 7 ∧ 3 ≤ i ∧ i ≤ 7) → ¬ (c = 71 ∧ i = row) → t1 c i = s c i := fun c i z1 z2 => by rw [t1f c i z2]; exact f0 c i z1
  have k1' : TkC T n p1 t1 := by
    unfold TkC at k0 ⊢
    simp (disch := omega) only [t1f]
    exact k0
  have c1 : Cs T n p2 t1 := Cs_f (fun c i h => t1f c i (by omega)) c0
  have e38 : t1 38 = s 38 := funext (fun i => t1s _ _ (by omega) (by omega))
  have e371 : t1 37 1 = s 37 1 := t1s _ _ (by omega) (by omega)
  have e373 : t1 37 3 = s 37 3 := t1s _ _ (by omega) (by omega)
  have e374 : t1 37 4 = s 37 4 := t1s _ _ (by omega) (by omega)
  have wok : ∀ x, 0 ≤ x → w = x → wOk T n p1 x := fun x hx e => by
    rw [hw] at e
    by_cases e1 : tkk T n p1 = 1
    · rw [if_pos e1] at e; exact ⟨e1, e⟩
    · rw [if_neg e1] at e; omega
  by_cases c6 : w = 6
  · have ok0 := wok 6 (by omega) c6
    obtain ⟨k1, hk1⟩ : ∃ k1, k1 = ixa (s 38) (nmT T n p2) 11 (s 37 4) := ⟨_, rfl⟩
    obtain ⟨k2, hk2⟩ : ∃ k2, k2 = ixa (s 38) (nmT T n p3) 0 (s 37 1) := ⟨_, rfl⟩
    have k1b := ixa_b (s 38) (nmT T n p2) 11 (m := s 37 4) hc.2.2.1
    have k2b := ixa_b (s 38) (nmT T n p3) 0 (m := s 37 1) hc.1.1
    rw [← hk1] at k1b
    rw [← hk2] at k2b
    have ref := fun (u : Mem) (hn : NmU s u) (hu : Rs_ T n p1 u) => t_at D h2 h3 h4 hT hu hn (show 3972 ≤ 3972 + 6 * row ∧ 3972 + 6 * row + 5 < 4340 by omega) ok0 hk1 hk2
    have rc := rd_caller d hT c1 row hr (by rw [e374]; exact hc.2.2)
    rw [e38, e374, ← hk1] at rc
    rw [c6] at qw t1v ht1
    simp (disch := first | assumption | omega) only [rn, wk, al, wr_e, td_e, tm_e, mset_eq, mset_ne, if_pos, if_neg, Int.reduceAdd, Int.reduceSub, Int.reduceMul, Int.reduceNeg, Int.reduceLT, Int.reduceLE, Int.reduceEq, Int.cast_ofNat_Int, eq_self, and_true, true_and, ite_self, true_or, or_true, false_or, or_false, and_false, false_and, not_true_eq_false, not_false_eq_true, if_true, if_false, e_MorningsReader_readTest_0, e_MorningsReader_readTest_60, e_MorningsReader_readTest_107, e_MorningsReader_readTest_108, e_MorningsReader_readTest_109, e_MorningsReader_readTest_133, e_MorningsReader_readTest_134, e_MorningsReader_readTest_135, e_MorningsReader_readTest_160, e_MorningsReader_readTest_161, e_MorningsReader_readTest_162, qw, ← ht1, t1v]
    refine EV_call (CV_mono rc ?_)
    rintro r t (⟨e, ok1, f1, v1, c2⟩ | ⟨e, nok, f1, g8, g9⟩)
    · subst e
      rw [← h3] at c2
      have tf : ∀ c i, ¬ (c = 7 ∧ 3 ≤ i ∧ i ≤ 7) → ¬ (71 ≤ c ∧ c ≤ 75 ∧ i = row) → t c i = s c i := fun c i z1 z2 => by rw [f1 c i z1 (by omega)]; exact t1s c i z1 (by omega)
      have d38 : t 38 = s 38 := funext (fun i => tf _ _ (by omega) (by omega))
      have d371 : t 37 1 = s 37 1 := tf _ _ (by omega) (by omega)
      have rp := rd_place d hT c2 row hr (by rw [d371]; exact hc.1)
      rw [d38, d371, ← hk2] at rp
      simp (disch := first | assumption | omega) only [rn, wk, al, wr_e, td_e, tm_e, mset_eq, mset_ne, if_pos, if_neg, Int.reduceAdd, Int.reduceSub, Int.reduceMul, Int.reduceNeg, Int.reduceLT, Int.reduceLE, Int.reduceEq, Int.cast_ofNat_Int, eq_self, and_true, true_and, ite_self, true_or, or_true, false_or, or_false, and_false, false_and, not_true_eq_false, not_false_eq_true, if_true, if_false, e_MorningsReader_readTest_0, e_MorningsReader_readTest_60, e_MorningsReader_readTest_107, e_MorningsReader_readTest_108, e_MorningsReader_readTest_109, e_MorningsReader_readTest_133, e_MorningsReader_readTest_134, e_MorningsReader_readTest_135, e_MorningsReader_readTest_160, e_MorningsReader_readTest_161, e_MorningsReader_readTest_162]
      refine EV_call (CV_mono rp ?_)
      rintro r t2 (⟨e, ok2, f2, v2, c3⟩ | ⟨e, nok, f2, g8, g9⟩)
      · subst e
        rw [← h4] at c3
        have ne1 := ok1.2
        have ne2 := ok2.2
        have tv1 : t2 72 row = k1 := by rw [f2 _ _ (by omega) (by omega)]; exact v1
        have tv0 : t2 71 row = 6 := by rw [f2 _ _ (by omega) (by omega), f1 _ _ (by omega) (by omega)]; exact t1v
        have hq : OrP D T n p1 s row 15 1 t2 := w_ok (fun c i z1 z2 => by rw [f2 c i z1 (by omega)]; exact tf c i z1 z2) (by omega) c3 (fun u hn hu => CV_mono (ref u hn hu) (fun r' w hw => by
          obtain ⟨e', w1, w2, w3, w4, w5, w6, w7⟩ := hw.2.2 ok1 ok2
          exact ⟨e', w7, w1, Or.inr (Or.inr (Or.inr (Or.inr (Or.inl ⟨rfl, Or.inr (Or.inl ⟨tv0, ⟨by rw [tv1]; omega, by rw [v2]; omega⟩, w2, by rw [tv1]; exact w3, by rw [v2]; exact w4⟩)⟩))))⟩))
        simp (disch := first | assumption | omega) only [rn, wk, al, wr_e, td_e, tm_e, mset_eq, mset_ne, if_pos, if_neg, Int.reduceAdd, Int.reduceSub, Int.reduceMul, Int.reduceNeg, Int.reduceLT, Int.reduceLE, Int.reduceEq, Int.cast_ofNat_Int, eq_self, and_true, true_and, ite_self, true_or, or_true, false_or, or_false, and_false, false_and, not_true_eq_false, not_false_eq_true, if_true, if_false, e_MorningsReader_readTest_0, e_MorningsReader_readTest_60, e_MorningsReader_readTest_107, e_MorningsReader_readTest_108, e_MorningsReader_readTest_109, e_MorningsReader_readTest_133, e_MorningsReader_readTest_134, e_MorningsReader_readTest_135, e_MorningsReader_readTest_160, e_MorningsReader_readTest_161, e_MorningsReader_readTest_162]
        exact hq
      · subst e
        have hq : OrP D T n p1 s row 15 0 t2 := w_no g8 g9 (flt_p nmF_p) (fun c i z1 z2 => by rw [f2 c i z1 (by omega)]; exact tf c i (by omega) z2) (fun u hn hu => CV_mono (ref u hn hu) (fun r' w hw => hw.2.1 ok1 nok))
        simp (disch := first | assumption | omega) only [rn, wk, al, wr_e, td_e, tm_e, mset_eq, mset_ne, if_pos, if_neg, Int.reduceAdd, Int.reduceSub, Int.reduceMul, Int.reduceNeg, Int.reduceLT, Int.reduceLE, Int.reduceEq, Int.cast_ofNat_Int, eq_self, and_true, true_and, ite_self, true_or, or_true, false_or, or_false, and_false, false_and, not_true_eq_false, not_false_eq_true, if_true, if_false, e_MorningsReader_readTest_0, e_MorningsReader_readTest_60, e_MorningsReader_readTest_107, e_MorningsReader_readTest_108, e_MorningsReader_readTest_109, e_MorningsReader_readTest_133, e_MorningsReader_readTest_134, e_MorningsReader_readTest_135, e_MorningsReader_readTest_160, e_MorningsReader_readTest_161, e_MorningsReader_readTest_162]
        exact hq
    · subst e
      have hq : OrP D T n p1 s row 15 0 t := w_no g8 g9 (flt_p nmF_p) (fun c i z1 z2 => by rw [f1 c i z1 (by omega)]; exact t1s c i (by omega) (by omega)) (fun u hn hu => CV_mono (ref u hn hu) (fun r' w hw => hw.1 nok))
      simp (disch := first | assumption | omega) only [rn, wk, al, wr_e, td_e, tm_e, mset_eq, mset_ne, if_pos, if_neg, Int.reduceAdd, Int.reduceSub, Int.reduceMul, Int.reduceNeg, Int.reduceLT, Int.reduceLE, Int.reduceEq, Int.cast_ofNat_Int, eq_self, and_true, true_and, ite_self, true_or, or_true, false_or, or_false, and_false, false_and, not_true_eq_false, not_false_eq_true, if_true, if_false, e_MorningsReader_readTest_0, e_MorningsReader_readTest_60, e_MorningsReader_readTest_107, e_MorningsReader_readTest_108, e_MorningsReader_readTest_109, e_MorningsReader_readTest_133, e_MorningsReader_readTest_134, e_MorningsReader_readTest_135, e_MorningsReader_readTest_160, e_MorningsReader_readTest_161, e_MorningsReader_readTest_162]
      exact hq
  · by_cases c17 : w = 17
    · have ok0 := wok 17 (by omega) c17
      have ref := fun (u : Mem) (hn : NmU s u) (hu : Rs_ T n p1 u) => t_calls D h2 h3 h4 hT hu hn (show 3972 ≤ 3972 + 6 * row ∧ 3972 + 6 * row + 5 < 4340 by omega) ok0
      rw [c17] at qw t1v ht1
      simp (disch := first | assumption | omega) only [rn, wk, al, wr_e, td_e, tm_e, mset_eq, mset_ne, if_pos, if_neg, Int.reduceAdd, Int.reduceSub, Int.reduceMul, Int.reduceNeg, Int.reduceLT, Int.reduceLE, Int.reduceEq, Int.cast_ofNat_Int, eq_self, and_true, true_and, ite_self, true_or, or_true, false_or, or_false, and_false, false_and, not_true_eq_false, not_false_eq_true, if_true, if_false, e_MorningsReader_readTest_0, e_MorningsReader_readTest_60, e_MorningsReader_readTest_107, e_MorningsReader_readTest_108, e_MorningsReader_readTest_109, e_MorningsReader_readTest_133, e_MorningsReader_readTest_134, e_MorningsReader_readTest_135, e_MorningsReader_readTest_160, e_MorningsReader_readTest_161, e_MorningsReader_readTest_162, qw, ← ht1, t1v]
      refine EV_call (CV_mono (rd_sign d hT c1 row hr) ?_)
      rintro r t (⟨e, ok1, f1, v1, c2⟩ | ⟨e, nok, f1, g8, g9⟩)
      · subst e
        rw [← h3] at c2
        have sg := kk3 ok1.1
        have sn := ok1.2
        simp (disch := first | assumption | omega) only [rn, wk, al, wr_e, td_e, tm_e, mset_eq, mset_ne, if_pos, if_neg, Int.reduceAdd, Int.reduceSub, Int.reduceMul, Int.reduceNeg, Int.reduceLT, Int.reduceLE, Int.reduceEq, Int.cast_ofNat_Int, eq_self, and_true, true_and, ite_self, true_or, or_true, false_or, or_false, and_false, false_and, not_true_eq_false, not_false_eq_true, if_true, if_false, e_MorningsReader_readTest_0, e_MorningsReader_readTest_60, e_MorningsReader_readTest_107, e_MorningsReader_readTest_108, e_MorningsReader_readTest_109, e_MorningsReader_readTest_133, e_MorningsReader_readTest_134, e_MorningsReader_readTest_135, e_MorningsReader_readTest_160, e_MorningsReader_readTest_161, e_MorningsReader_readTest_162]
        refine EV_call (CV_mono (rd_number d hT c2 row 0 8 hr) ?_)
        rintro r t2 (⟨e, ok2, f2, v2, c3⟩ | ⟨e, nok, f2, g8, g9⟩)
        · subst e
          rw [← h4] at c3
          have tv1 : t2 74 row = T (tkq T n p2) := by rw [f2 _ _ (by omega) (by omega)]; exact v1
          have tv0 : t2 71 row = 17 := by rw [f2 _ _ (by omega) (by omega), f1 _ _ (by omega) (by omega)]; exact t1v
          have hq : OrP D T n p1 s row 15 1 t2 := w_ok (fun c i z1 z2 => by rw [f2 c i z1 (by omega), f1 c i z1 (by omega)]; exact t1s c i z1 (by omega)) (by omega) c3 (fun u hn hu => CV_mono (ref u hn hu) (fun r' w hw => by
            obtain ⟨e', w1, w2, w3, w4, w5, w6, w7⟩ := hw.2.2 ok1 ok2
            exact ⟨e', w7, w1, Or.inr (Or.inr (Or.inr (Or.inr (Or.inl ⟨rfl, Or.inr (Or.inr ⟨tv0, ⟨by rw [tv1]; omega, by rw [v2]; exact ok2.2⟩, w2, by rw [tv1]; exact w6, by rw [v2]; exact w4⟩)⟩))))⟩))
          simp (disch := first | assumption | omega) only [rn, wk, al, wr_e, td_e, tm_e, mset_eq, mset_ne, if_pos, if_neg, Int.reduceAdd, Int.reduceSub, Int.reduceMul, Int.reduceNeg, Int.reduceLT, Int.reduceLE, Int.reduceEq, Int.cast_ofNat_Int, eq_self, and_true, true_and, ite_self, true_or, or_true, false_or, or_false, and_false, false_and, not_true_eq_false, not_false_eq_true, if_true, if_false, e_MorningsReader_readTest_0, e_MorningsReader_readTest_60, e_MorningsReader_readTest_107, e_MorningsReader_readTest_108, e_MorningsReader_readTest_109, e_MorningsReader_readTest_133, e_MorningsReader_readTest_134, e_MorningsReader_readTest_135, e_MorningsReader_readTest_160, e_MorningsReader_readTest_161, e_MorningsReader_readTest_162]
          exact hq
        · subst e
          have hq : OrP D T n p1 s row 15 0 t2 := w_no g8 g9 (flt_p nF_p) (fun c i z1 z2 => by rw [f2 c i z1 (by omega), f1 c i (by omega) (by omega)]; exact t1s c i (by omega) (by omega)) (fun u hn hu => CV_mono (ref u hn hu) (fun r' w hw => hw.2.1 ok1 nok))
          simp (disch := first | assumption | omega) only [rn, wk, al, wr_e, td_e, tm_e, mset_eq, mset_ne, if_pos, if_neg, Int.reduceAdd, Int.reduceSub, Int.reduceMul, Int.reduceNeg, Int.reduceLT, Int.reduceLE, Int.reduceEq, Int.cast_ofNat_Int, eq_self, and_true, true_and, ite_self, true_or, or_true, false_or, or_false, and_false, false_and, not_true_eq_false, not_false_eq_true, if_true, if_false, e_MorningsReader_readTest_0, e_MorningsReader_readTest_60, e_MorningsReader_readTest_107, e_MorningsReader_readTest_108, e_MorningsReader_readTest_109, e_MorningsReader_readTest_133, e_MorningsReader_readTest_134, e_MorningsReader_readTest_135, e_MorningsReader_readTest_160, e_MorningsReader_readTest_161, e_MorningsReader_readTest_162]
          exact hq
      · subst e
        have hq : OrP D T n p1 s row 15 0 t := w_no g8 g9 (flt_p (by omega)) (fun c i z1 z2 => by rw [f1 c i z1 (by omega)]; exact t1s c i (by omega) (by omega)) (fun u hn hu => CV_mono (ref u hn hu) (fun r' w hw => hw.1 nok))
        simp (disch := first | assumption | omega) only [rn, wk, al, wr_e, td_e, tm_e, mset_eq, mset_ne, if_pos, if_neg, Int.reduceAdd, Int.reduceSub, Int.reduceMul, Int.reduceNeg, Int.reduceLT, Int.reduceLE, Int.reduceEq, Int.cast_ofNat_Int, eq_self, and_true, true_and, ite_self, true_or, or_true, false_or, or_false, and_false, false_and, not_true_eq_false, not_false_eq_true, if_true, if_false, e_MorningsReader_readTest_0, e_MorningsReader_readTest_60, e_MorningsReader_readTest_107, e_MorningsReader_readTest_108, e_MorningsReader_readTest_109, e_MorningsReader_readTest_133, e_MorningsReader_readTest_134, e_MorningsReader_readTest_135, e_MorningsReader_readTest_160, e_MorningsReader_readTest_161, e_MorningsReader_readTest_162]
        exact hq
    · by_cases c16 : w = 16
      · have ok0 := wok 16 (by omega) c16
        obtain ⟨k1, hk1⟩ : ∃ k1, k1 = ixa (s 38) (nmT T n p2) 7 (s 37 3) := ⟨_, rfl⟩
        have k1b := ixa_b (s 38) (nmT T n p2) 7 (m := s 37 3) hc.2.1.1
        rw [← hk1] at k1b
        have ref := fun (u : Mem) (hn : NmU s u) (hu : Rs_ T n p1 u) => t_heard D h2 h3 h4 h5 h6 hT hu hn (show 3972 ≤ 3972 + 6 * row ∧ 3972 + 6 * row + 5 < 4340 by omega) ok0 hk1
        have rc := rd_slate d hT c1 row hr (by rw [e373]; exact hc.2.1)
        rw [e38, e373, ← hk1] at rc
        rw [c16] at qw t1v ht1
        simp (disch := first | assumption | omega) only [rn, wk, al, wr_e, td_e, tm_e, mset_eq, mset_ne, if_pos, if_neg, Int.reduceAdd, Int.reduceSub, Int.reduceMul, Int.reduceNeg, Int.reduceLT, Int.reduceLE, Int.reduceEq, Int.cast_ofNat_Int, eq_self, and_true, true_and, ite_self, true_or, or_true, false_or, or_false, and_false, false_and, not_true_eq_false, not_false_eq_true, if_true, if_false, e_MorningsReader_readTest_0, e_MorningsReader_readTest_60, e_MorningsReader_readTest_107, e_MorningsReader_readTest_108, e_MorningsReader_readTest_109, e_MorningsReader_readTest_133, e_MorningsReader_readTest_134, e_MorningsReader_readTest_135, e_MorningsReader_readTest_160, e_MorningsReader_readTest_161, e_MorningsReader_readTest_162, qw, ← ht1, t1v]
        refine EV_call (CV_mono rc ?_)
        rintro r t (⟨e, ok1, f1, v1, c2⟩ | ⟨e, nok, f1, g8, g9⟩)
        · subst e
          rw [← h3] at c2
          have tf : ∀ c i, ¬ (c = 7 ∧ 3 ≤ i ∧ i ≤ 7) → ¬ (71 ≤ c ∧ c ≤ 75 ∧ i = row) → t c i = s c i := fun c i z1 z2 => by rw [f1 c i z1 (by omega)]; exact t1s c i z1 (by omega)
          simp (disch := first | assumption | omega) only [rn, wk, al, wr_e, td_e, tm_e, mset_eq, mset_ne, if_pos, if_neg, Int.reduceAdd, Int.reduceSub, Int.reduceMul, Int.reduceNeg, Int.reduceLT, Int.reduceLE, Int.reduceEq, Int.cast_ofNat_Int, eq_self, and_true, true_and, ite_self, true_or, or_true, false_or, or_false, and_false, false_and, not_true_eq_false, not_false_eq_true, if_true, if_false, e_MorningsReader_readTest_0, e_MorningsReader_readTest_60, e_MorningsReader_readTest_107, e_MorningsReader_readTest_108, e_MorningsReader_readTest_109, e_MorningsReader_readTest_133, e_MorningsReader_readTest_134, e_MorningsReader_readTest_135, e_MorningsReader_readTest_160, e_MorningsReader_readTest_161, e_MorningsReader_readTest_162]
          refine EV_call (CV_mono (rd_where d hT c2 row 90 hr) ?_)
          rintro r t2 (⟨e, ok2, f2, v2, c3⟩ | ⟨e, nok, f2, g8, g9⟩)
          · subst e
            rw [← h4] at c3
            simp (disch := first | assumption | omega) only [rn, wk, al, wr_e, td_e, tm_e, mset_eq, mset_ne, if_pos, if_neg, Int.reduceAdd, Int.reduceSub, Int.reduceMul, Int.reduceNeg, Int.reduceLT, Int.reduceLE, Int.reduceEq, Int.cast_ofNat_Int, eq_self, and_true, true_and, ite_self, true_or, or_true, false_or, or_false, and_false, false_and, not_true_eq_false, not_false_eq_true, if_true, if_false, e_MorningsReader_readTest_0, e_MorningsReader_readTest_60, e_MorningsReader_readTest_107, e_MorningsReader_readTest_108, e_MorningsReader_readTest_109, e_MorningsReader_readTest_133, e_MorningsReader_readTest_134, e_MorningsReader_readTest_135, e_MorningsReader_readTest_160, e_MorningsReader_readTest_161, e_MorningsReader_readTest_162]
            refine EV_call (CV_mono (rd_sign d hT c3 row hr) ?_)
            rintro r t3 (⟨e, ok3, f3, v3, c4⟩ | ⟨e, nok, f3, g8, g9⟩)
            · subst e
              rw [← h5] at c4
              have sg := kk3 ok3.1
              have sn := ok3.2
              simp (disch := first | assumption | omega) only [rn, wk, al, wr_e, td_e, tm_e, mset_eq, mset_ne, if_pos, if_neg, Int.reduceAdd, Int.reduceSub, Int.reduceMul, Int.reduceNeg, Int.reduceLT, Int.reduceLE, Int.reduceEq, Int.cast_ofNat_Int, eq_self, and_true, true_and, ite_self, true_or, or_true, false_or, or_false, and_false, false_and, not_true_eq_false, not_false_eq_true, if_true, if_false, e_MorningsReader_readTest_0, e_MorningsReader_readTest_60, e_MorningsReader_readTest_107, e_MorningsReader_readTest_108, e_MorningsReader_readTest_109, e_MorningsReader_readTest_133, e_MorningsReader_readTest_134, e_MorningsReader_readTest_135, e_MorningsReader_readTest_160, e_MorningsReader_readTest_161, e_MorningsReader_readTest_162]
              refine EV_call (CV_mono (rd_number d hT c4 row 0 999 hr) ?_)
              rintro r t4 (⟨e, ok4, f4, v4, c5⟩ | ⟨e, nok, f4, g8, g9⟩)
              · subst e
                rw [← h6] at c5
                have ne1 := ok1.2
                have tv0 : t4 71 row = 16 := by rw [f4 _ _ (by omega) (by omega), f3 _ _ (by omega) (by omega), f2 _ _ (by omega) (by omega), f1 _ _ (by omega) (by omega)]; exact t1v
                have tv1 : t4 72 row = k1 := by rw [f4 _ _ (by omega) (by omega), f3 _ _ (by omega) (by omega), f2 _ _ (by omega) (by omega)]; exact v1
                have tv2 : t4 73 row = dvT T n p3 := by rw [f4 _ _ (by omega) (by omega), f3 _ _ (by omega) (by omega)]; exact v2
                have tv3 : t4 74 row = T (tkq T n p4) := by rw [f4 _ _ (by omega) (by omega)]; exact v3
                have hq : OrP D T n p1 s row 15 1 t4 := w_ok (fun c i z1 z2 => by rw [f4 c i z1 (by omega), f3 c i z1 (by omega), f2 c i z1 (by omega)]; exact tf c i z1 z2) (by omega) c5 (fun u hn hu => CV_mono (ref u hn hu) (fun r' w hw => by
                  obtain ⟨e', w1, w2, w3, w4, w5, w6, w7⟩ := hw.2.2.2.2 ok1 ok2 ok3 ok4
                  exact ⟨e', w7, w1, Or.inr (Or.inr (Or.inr (Or.inr (Or.inl ⟨rfl, Or.inl ⟨tv0, ⟨by rw [tv1]; omega, by rw [tv2]; exact ok2.2, by rw [tv3]; omega, by rw [v4]; exact ok4.2⟩, w2, by rw [tv1]; exact w3, by rw [tv2]; exact w5, by rw [tv3]; exact w6, by rw [v4]; exact w4⟩⟩))))⟩))
                simp (disch := first | assumption | omega) only [rn, wk, al, wr_e, td_e, tm_e, mset_eq, mset_ne, if_pos, if_neg, Int.reduceAdd, Int.reduceSub, Int.reduceMul, Int.reduceNeg, Int.reduceLT, Int.reduceLE, Int.reduceEq, Int.cast_ofNat_Int, eq_self, and_true, true_and, ite_self, true_or, or_true, false_or, or_false, and_false, false_and, not_true_eq_false, not_false_eq_true, if_true, if_false, e_MorningsReader_readTest_0, e_MorningsReader_readTest_60, e_MorningsReader_readTest_107, e_MorningsReader_readTest_108, e_MorningsReader_readTest_109, e_MorningsReader_readTest_133, e_MorningsReader_readTest_134, e_MorningsReader_readTest_135, e_MorningsReader_readTest_160, e_MorningsReader_readTest_161, e_MorningsReader_readTest_162]
                exact hq
              · subst e
                have hq : OrP D T n p1 s row 15 0 t4 := w_no g8 g9 (flt_p nF_p) (fun c i z1 z2 => by rw [f4 c i z1 (by omega), f3 c i (by omega) (by omega), f2 c i (by omega) (by omega)]; exact tf c i (by omega) z2) (fun u hn hu => CV_mono (ref u hn hu) (fun r' w hw => hw.2.2.2.1 ok1 ok2 ok3 nok))
                simp (disch := first | assumption | omega) only [rn, wk, al, wr_e, td_e, tm_e, mset_eq, mset_ne, if_pos, if_neg, Int.reduceAdd, Int.reduceSub, Int.reduceMul, Int.reduceNeg, Int.reduceLT, Int.reduceLE, Int.reduceEq, Int.cast_ofNat_Int, eq_self, and_true, true_and, ite_self, true_or, or_true, false_or, or_false, and_false, false_and, not_true_eq_false, not_false_eq_true, if_true, if_false, e_MorningsReader_readTest_0, e_MorningsReader_readTest_60, e_MorningsReader_readTest_107, e_MorningsReader_readTest_108, e_MorningsReader_readTest_109, e_MorningsReader_readTest_133, e_MorningsReader_readTest_134, e_MorningsReader_readTest_135, e_MorningsReader_readTest_160, e_MorningsReader_readTest_161, e_MorningsReader_readTest_162]
                exact hq
            · subst e
              have hq : OrP D T n p1 s row 15 0 t3 := w_no g8 g9 (flt_p (by omega)) (fun c i z1 z2 => by rw [f3 c i z1 (by omega), f2 c i (by omega) (by omega)]; exact tf c i (by omega) z2) (fun u hn hu => CV_mono (ref u hn hu) (fun r' w hw => hw.2.2.1 ok1 ok2 nok))
              simp (disch := first | assumption | omega) only [rn, wk, al, wr_e, td_e, tm_e, mset_eq, mset_ne, if_pos, if_neg, Int.reduceAdd, Int.reduceSub, Int.reduceMul, Int.reduceNeg, Int.reduceLT, Int.reduceLE, Int.reduceEq, Int.cast_ofNat_Int, eq_self, and_true, true_and, ite_self, true_or, or_true, false_or, or_false, and_false, false_and, not_true_eq_false, not_false_eq_true, if_true, if_false, e_MorningsReader_readTest_0, e_MorningsReader_readTest_60, e_MorningsReader_readTest_107, e_MorningsReader_readTest_108, e_MorningsReader_readTest_109, e_MorningsReader_readTest_133, e_MorningsReader_readTest_134, e_MorningsReader_readTest_135, e_MorningsReader_readTest_160, e_MorningsReader_readTest_161, e_MorningsReader_readTest_162]
              exact hq
          · subst e
            have hq : OrP D T n p1 s row 15 0 t2 := w_no g8 g9 (flt_p nF_p) (fun c i z1 z2 => by rw [f2 c i z1 (by omega)]; exact tf c i (by omega) z2) (fun u hn hu => CV_mono (ref u hn hu) (fun r' w hw => hw.2.1 ok1 nok))
            simp (disch := first | assumption | omega) only [rn, wk, al, wr_e, td_e, tm_e, mset_eq, mset_ne, if_pos, if_neg, Int.reduceAdd, Int.reduceSub, Int.reduceMul, Int.reduceNeg, Int.reduceLT, Int.reduceLE, Int.reduceEq, Int.cast_ofNat_Int, eq_self, and_true, true_and, ite_self, true_or, or_true, false_or, or_false, and_false, false_and, not_true_eq_false, not_false_eq_true, if_true, if_false, e_MorningsReader_readTest_0, e_MorningsReader_readTest_60, e_MorningsReader_readTest_107, e_MorningsReader_readTest_108, e_MorningsReader_readTest_109, e_MorningsReader_readTest_133, e_MorningsReader_readTest_134, e_MorningsReader_readTest_135, e_MorningsReader_readTest_160, e_MorningsReader_readTest_161, e_MorningsReader_readTest_162]
            exact hq
        · subst e
          have hq : OrP D T n p1 s row 15 0 t := w_no g8 g9 (flt_p nmF_p) (fun c i z1 z2 => by rw [f1 c i z1 (by omega)]; exact t1s c i (by omega) (by omega)) (fun u hn hu => CV_mono (ref u hn hu) (fun r' w hw => hw.1 nok))
          simp (disch := first | assumption | omega) only [rn, wk, al, wr_e, td_e, tm_e, mset_eq, mset_ne, if_pos, if_neg, Int.reduceAdd, Int.reduceSub, Int.reduceMul, Int.reduceNeg, Int.reduceLT, Int.reduceLE, Int.reduceEq, Int.cast_ofNat_Int, eq_self, and_true, true_and, ite_self, true_or, or_true, false_or, or_false, and_false, false_and, not_true_eq_false, not_false_eq_true, if_true, if_false, e_MorningsReader_readTest_0, e_MorningsReader_readTest_60, e_MorningsReader_readTest_107, e_MorningsReader_readTest_108, e_MorningsReader_readTest_109, e_MorningsReader_readTest_133, e_MorningsReader_readTest_134, e_MorningsReader_readTest_135, e_MorningsReader_readTest_160, e_MorningsReader_readTest_161, e_MorningsReader_readTest_162]
          exact hq
      · have q2 := q_Trefuse (d + 3) t1 2 k1'
        have hq : OrP D T n p1 s row 15 0 (mset (mset t1 7 8 (flt T n p1 2)) 7 9 (tkq T n p1)) := w_no (by rw [mset_ne (by omega), mset_eq rfl rfl]) (mset_eq rfl rfl) (flt_p (by omega)) (fun c i z1 z2 => by rw [mset_ne (by omega), mset_ne (by omega)]; exact t1s c i (by omega) (by omega)) (fun u hn hu => t_bad D hT hu _ (fun h => by
          rw [hw, if_pos h.1] at c6 c17 c16
          rcases h.2 with g | g | g
          · exact c6 g
          · exact c16 g
          · exact c17 g))
        simp (disch := first | assumption | omega) only [rn, wk, al, wr_e, td_e, tm_e, mset_eq, mset_ne, if_pos, if_neg, Int.reduceAdd, Int.reduceSub, Int.reduceMul, Int.reduceNeg, Int.reduceLT, Int.reduceLE, Int.reduceEq, Int.cast_ofNat_Int, eq_self, and_true, true_and, ite_self, true_or, or_true, false_or, or_false, and_false, false_and, not_true_eq_false, not_false_eq_true, if_true, if_false, e_MorningsReader_readTest_0, e_MorningsReader_readTest_60, e_MorningsReader_readTest_107, e_MorningsReader_readTest_108, e_MorningsReader_readTest_109, e_MorningsReader_readTest_133, e_MorningsReader_readTest_134, e_MorningsReader_readTest_135, e_MorningsReader_readTest_160, e_MorningsReader_readTest_161, e_MorningsReader_readTest_162, qw, ← ht1, t1v, q2]
        exact hq
theorem x_rest (d D : Nat) {T : Int → Int} {n p : Int} (hT : TX T n) {s : Mem} (hk : TkC T n p s) (hs : Cs T n (tke T n p) s) (row w : Int) (hrow : s 69 2 = row + 1) (hr : 0 ≤ row ∧ row < 60) (hc : NmC s) (hw : wOk T n p w) (hw2 : w = 10 ∨ w = 11 ∨ w = 12 ∨ w = 13 ∨ w = 14 ∨ w = 15 ∨ w = 18 ∨ w = 20) : CV (d + 6) 76 [10, 69, 37] s (OrP D T n (tke T n p) s row w) := by
  have qw := q_Tword (d + 4) s hk
  rw [if_pos hw.1, hw.2] at qw
  rcases hw2 with e | e | e | e | e | e | e | e
  · subst e; exact rs_0 d s _ row qw hrow hr _ 64 (by omega) (m_say d D hT hs row hr hc)
  · subst e; exact rs_0 d s _ row qw hrow hr _ 146 (by omega) (m_none d D hs row 11 hr (by omega))
  · subst e; exact rs_0 d s _ row qw hrow hr _ 102 (by omega) (m_walk d D hT hs row hr hc)
  · subst e; exact rs_0 d s _ row qw hrow hr _ 146 (by omega) (m_none d D hs row 13 hr (by omega))
  · subst e; exact rs_0 d s _ row qw hrow hr _ 146 (by omega) (m_none d D hs row 14 hr (by omega))
  · subst e
    refine rs_0 d s _ row qw hrow hr _ 128 (by omega) ?_
    rw [e_MorningsReader_readRest_128]
    simp (disch := first | assumption | omega) only [rn, wk, al, wr_e, td_e, tm_e, mset_eq, mset_ne, if_pos, if_neg, Int.reduceAdd, Int.reduceSub, Int.reduceMul, Int.reduceNeg, Int.reduceLT, Int.reduceLE, Int.reduceEq, Int.cast_ofNat_Int, eq_self, and_true, true_and, ite_self, true_or, or_true, false_or, or_false, and_false, false_and, not_true_eq_false, not_false_eq_true, if_true, if_false]
    refine EV_call (CV_mono (c_when d D hT hs row hr hc) ?_)
    intro r t h
    have h01 := OrP01 h
    simp (disch := first | assumption | omega) only [rn, wk, al, wr_e, td_e, tm_e, mset_eq, mset_ne, if_pos, if_neg, Int.reduceAdd, Int.reduceSub, Int.reduceMul, Int.reduceNeg, Int.reduceLT, Int.reduceLE, Int.reduceEq, Int.cast_ofNat_Int, eq_self, and_true, true_and, ite_self, true_or, or_true, false_or, or_false, and_false, false_and, not_true_eq_false, not_false_eq_true, if_true, if_false]
    exact h
  · subst e; exact rs_0 d s _ row qw hrow hr _ 136 (by omega) (m_loop d D hT hs row hr)
  · subst e; exact rs_0 d s _ row qw hrow hr _ 146 (by omega) (m_none d D hs row 20 hr (by omega))
