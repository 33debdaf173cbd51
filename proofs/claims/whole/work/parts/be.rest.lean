/-! ===== H2: mornings, what stands behind the word of a step ===== -/
theorem rs_0 (d : Nat) (s : Mem) (w row : Int) (qw : sem (d + 5) 35 [7] s = some (w, s)) (hrow : s 69 2 = row + 1) (hr : 0 ≤ row ∧ row < 60) (G : Int → Mem → Prop) (pc : Int) (h : (w = 10 ∧ pc = 64) ∨ (w = 11 ∧ pc = 146) ∨ (w = 12 ∧ pc = 102) ∨ (w = 13 ∧ pc = 146) ∨ (w = 14 ∧ pc = 146) ∨ (w = 15 ∧ pc = 128) ∨ (w = 18 ∧ pc = 136) ∨ (w = 20 ∧ pc = 146)) (hx : EV (d + 5) o_MorningsReader_readRest pc [] [10, 69, 37, row] s G) : CV (d + 6) 76 [10, 69, 37] s G := by
  have hgo : EVQ (d + 5) o_MorningsReader_readRest (swk [(10, 64), (11, 146), (12, 102), (13, 146), (14, 146), (15, 128), (16, 146), (17, 146), (18, 136)] 146 w fun q => some (q, [], [10, 69, 37, row], s)) G := by
    rcases h with ⟨e, e2⟩ | ⟨e, e2⟩ | ⟨e, e2⟩ | ⟨e, e2⟩ | ⟨e, e2⟩ | ⟨e, e2⟩ | ⟨e, e2⟩ | ⟨e, e2⟩
    all_goals (subst e e2; exact hx)
  have e1 : wr (s 69 2 - 1) = row := by rw [hrow]; unfold wr; omega
  apply c_MorningsReader_readRest
  rw [e_MorningsReader_readRest_0]
  show EVQ (d + 5) o_MorningsReader_readRest (cal (sem (d + 5) 35 [7] s) fun v t => swk [(10, 64), (11, 146), (12, 102), (13, 146), (14, 146), (15, 128), (16, 146), (17, 146), (18, 136)] 146 v fun q => some (q, [], [10, 69, 37, wr (s 69 2 - 1)], t)) G
  rw [qw, e1]
  exact hgo
def RowP (s t u : Mem) (row w : Int) : Prop :=
  (w = 10 ∧ ((0 ≤ t 72 row ∧ t 72 row < s 37 4) ∧ (0 ≤ t 73 row ∧ t 73 row ≤ 2) ∧ (0 ≤ t 75 row ∧ t 75 row ≤ 20)) ∧ u 138 (3972 + 6 * row) = 10 ∧ u 138 (3972 + 6 * row + 1) = t 72 row ∧ u 138 (3972 + 6 * row + 2) = t 73 row ∧ u 138 (3972 + 6 * row + 3) = t 75 row) ∨
  (w = 12 ∧ ((0 ≤ t 72 row ∧ t 72 row < s 37 4) ∧ (0 ≤ t 73 row ∧ t 73 row < s 37 1)) ∧ u 138 (3972 + 6 * row) = 12 ∧ u 138 (3972 + 6 * row + 1) = t 72 row ∧ u 138 (3972 + 6 * row + 2) = t 73 row) ∨
  ((w = 11 ∨ w = 13 ∨ w = 14) ∧ u 138 (3972 + 6 * row) = w) ∨
  (w = 20 ∧ u 138 (3972 + 6 * row) = 18) ∨
  (w = 15 ∧ ((t 71 row = 16 ∧ ((0 ≤ t 72 row ∧ t 72 row < s 37 3) ∧ (0 ≤ t 73 row ∧ t 73 row ≤ 90) ∧ (60 ≤ t 74 row ∧ t 74 row ≤ 62) ∧ (0 ≤ t 75 row ∧ t 75 row ≤ 999)) ∧ u 138 (3972 + 6 * row) = 1519 ∧ u 138 (3972 + 6 * row + 1) = t 72 row ∧ u 138 (3972 + 6 * row + 3) = t 73 row ∧ u 138 (3972 + 6 * row + 5) = t 74 row ∧ u 138 (3972 + 6 * row + 2) = t 75 row) ∨ (t 71 row = 6 ∧ ((0 ≤ t 72 row ∧ t 72 row < s 37 4) ∧ (0 ≤ t 73 row ∧ t 73 row < s 37 1)) ∧ u 138 (3972 + 6 * row) = 1509 ∧ u 138 (3972 + 6 * row + 1) = t 72 row ∧ u 138 (3972 + 6 * row + 2) = t 73 row) ∨ (t 71 row = 17 ∧ ((60 ≤ t 74 row ∧ t 74 row ≤ 62) ∧ (0 ≤ t 75 row ∧ t 75 row ≤ 8)) ∧ u 138 (3972 + 6 * row) = 1520 ∧ u 138 (3972 + 6 * row + 5) = t 74 row ∧ u 138 (3972 + 6 * row + 2) = t 75 row))) ∨
  (w = 18 ∧ (1 ≤ t 75 row ∧ t 75 row ≤ 99) ∧ u 138 (3972 + 6 * row) = 16 ∧ u 138 (3972 + 6 * row + 1) = t 75 row)
def RgR (T : Int → Int) (n : Int) (s t u : Mem) (row w p' r' : Int) (v : Mem) : Prop := r' = 1 ∧ Rs_ T n p' v ∧ (∀ c i, ¬ (c = 137 ∧ 12 ≤ i ∧ i ≤ 15) → ¬ (c = 138 ∧ 3972 + 6 * row ≤ i ∧ i ≤ 3972 + 6 * row + 5) → v c i = u c i) ∧ RowP s t v row w
/-- what comes of the rest of a step, from the token behind its word on -/
def OrP (D : Nat) (T : Int → Int) (n p1 : Int) (s : Mem) (row w r : Int) (t : Mem) : Prop := (r = 1 ∧ (∀ c i, ¬ (c = 7 ∧ 3 ≤ i ∧ i ≤ 7) → ¬ (71 ≤ c ∧ c ≤ 75 ∧ i = row) → t c i = s c i) ∧ ∃ p', p1 ≤ p' ∧ Cs T n p' t ∧ ∀ u, NmU s u → Rs_ T n p1 u → u 138 (3972 + 6 * row) = pm w → CV (D + 7) 264 [137, pm w, 3972 + 6 * row] u (RgR T n s t u row w p')) ∨ (r = 0 ∧ 0 < t 7 8 ∧ (∀ c i, ¬ (c = 7 ∧ 3 ≤ i ∧ i ≤ 9) → ¬ (71 ≤ c ∧ c ≤ 75 ∧ i = row) → t c i = s c i) ∧ ∀ u, NmU s u → Rs_ T n p1 u → u 138 (3972 + 6 * row) = pm w → CV (D + 7) 264 [137, pm w, 3972 + 6 * row] u (NoR u (t 7 8) (t 7 9)))
theorem OrP01 {D : Nat} {T : Int → Int} {n p1 : Int} {s : Mem} {row w r : Int} {t : Mem} (h : OrP D T n p1 s row w r t) : r = 0 ∨ r = 1 := by
  rcases h with ⟨e, -⟩ | ⟨e, -⟩
  · exact Or.inr e
  · exact Or.inl e
def NmC (s : Mem) : Prop := (0 ≤ s 37 1 ∧ s 37 1 ≤ 7) ∧ (0 ≤ s 37 3 ∧ s 37 3 ≤ 4) ∧ (0 ≤ s 37 4 ∧ s 37 4 ≤ 5)
theorem m_none (d D : Nat) {T : Int → Int} {n p1 : Int} {s : Mem} (hs : Cs T n p1 s) (row w : Int) (hr : 0 ≤ row ∧ row < 60) (hw : w = 11 ∨ w = 13 ∨ w = 14 ∨ w = 20) : EV (d + 5) o_MorningsReader_readRest 146 [] [10, 69, 37, row] s (OrP D T n p1 s row w) := by
  have hq : OrP D T n p1 s row w 1 s := by
    refine Or.inl ⟨rfl, fun _ _ _ _ => rfl, p1, by omega, hs, fun u hn hu h0 => ?_⟩
    have qo : sem (D + 7) 264 [137, pm w, 3972 + 6 * row] u = some (1, u) := o_none (D + 6) (pm w) _ u (by
      rcases hw with e | e | e | e
      all_goals (subst e; decide))
    refine CV_of qo ⟨rfl, hu, fun _ _ _ _ => rfl, ?_⟩
    rcases hw with e | e | e | e
    · subst e; exact Or.inr (Or.inr (Or.inl ⟨by omega, h0⟩))
    · subst e; exact Or.inr (Or.inr (Or.inl ⟨by omega, h0⟩))
    · subst e; exact Or.inr (Or.inr (Or.inl ⟨by omega, h0⟩))
    · subst e; exact Or.inr (Or.inr (Or.inr (Or.inl ⟨rfl, h0⟩)))
  rw [e_MorningsReader_readRest_146]
  simp (disch := first | assumption | omega) only [rn, wk, al, wr_e, td_e, tm_e, mset_eq, mset_ne, if_pos, if_neg, Int.reduceAdd, Int.reduceSub, Int.reduceMul, Int.reduceNeg, Int.reduceLT, Int.reduceLE, Int.reduceEq, Int.cast_ofNat_Int, eq_self, and_true, true_and, ite_self, true_or, or_true, false_or, or_false, and_false, false_and, not_true_eq_false, not_false_eq_true, if_true, if_false]
  exact hq
theorem m_loop (d D : Nat) {T : Int → Int} {n p1 : Int} (hT : TX T n) {s : Mem} (hs : Cs T n p1 s) (row : Int) (hr : 0 ≤ row ∧ row < 60) : EV (d + 5) o_MorningsReader_readRest 136 [] [10, 69, 37, row] s (OrP D T n p1 s row 18) := by
  obtain ⟨p2, h2⟩ : ∃ p2, p2 = tke T n p1 := ⟨_, rfl⟩
  obtain ⟨tb1, tb2, -⟩ := tke_b (T := T) hs.1
  have hs1 := hs.1
  rw [e_MorningsReader_readRest_136]
  simp (disch := first | assumption | omega) only [rn, wk, al, wr_e, td_e, tm_e, mset_eq, mset_ne, if_pos, if_neg, Int.reduceAdd, Int.reduceSub, Int.reduceMul, Int.reduceNeg, Int.reduceLT, Int.reduceLE, Int.reduceEq, Int.cast_ofNat_Int, eq_self, and_true, true_and, ite_self, true_or, or_true, false_or, or_false, and_false, false_and, not_true_eq_false, not_false_eq_true, if_true, if_false]
  refine EV_call (CV_mono (rd_number (d + 1) hT hs row 1 99 hr) ?_)
  intro r t h
  have h01 := RdP01 h
  have hq : OrP D T n p1 s row 18 r t := by
    rcases h with ⟨e, ok, f, v, c⟩ | ⟨e, nok, f, g8, g9⟩
    · refine Or.inl ⟨e, fun c i z1 z2 => f c i z1 (by omega), p2, by omega, by rw [h2]; exact c, fun u hn hu h0 => CV_mono (o_loop (D + 1) h2 hT hu (by omega)) (fun r' w hw => ?_)⟩
      obtain ⟨e', w1, w2, w3, w4, w5⟩ := hw.2 ok
      exact ⟨e', w5, fun c i z1 z2 => w1 c i z1 (by omega), Or.inr (Or.inr (Or.inr (Or.inr (Or.inr ⟨rfl, by rw [v]; exact ok.2, by rw [w1 _ _ (by omega) (by omega)]; exact h0, by rw [v]; exact w2⟩))))⟩
    · refine Or.inr ⟨e, by rw [g8]; exact flt_p nF_p, fun c i z1 z2 => f c i z1 (by omega), fun u hn hu h0 => ?_⟩
      rw [g8, g9]
      exact CV_mono (o_loop (D + 1) h2 hT hu (by omega)) (fun r' w hw => hw.1 nok)
  simp (disch := first | assumption | omega) only [rn, wk, al, wr_e, td_e, tm_e, mset_eq, mset_ne, if_pos, if_neg, Int.reduceAdd, Int.reduceSub, Int.reduceMul, Int.reduceNeg, Int.reduceLT, Int.reduceLE, Int.reduceEq, Int.cast_ofNat_Int, eq_self, and_true, true_and, ite_self, true_or, or_true, false_or, or_false, and_false, false_and, not_true_eq_false, not_false_eq_true, if_true, if_false]
  exact hq
theorem m_walk (d D : Nat) {T : Int → Int} {n p1 : Int} (hT : TX T n) {s : Mem} (hs : Cs T n p1 s) (row : Int) (hr : 0 ≤ row ∧ row < 60) (hc : NmC s) : EV (d + 5) o_MorningsReader_readRest 102 [] [10, 69, 37, row] s (OrP D T n p1 s row 12) := by
  obtain ⟨p2, h2⟩ : ∃ p2, p2 = tke T n p1 := ⟨_, rfl⟩
  obtain ⟨p3, h3⟩ : ∃ p3, p3 = tke T n p2 := ⟨_, rfl⟩
  obtain ⟨tb1, tb2, -⟩ := tke_b (T := T) hs.1
  have hs1 := hs.1
  obtain ⟨ub1, ub2, -⟩ := tke_b (T := T) (n := n) (p := p2) (by omega)
  obtain ⟨k1, hk1⟩ : ∃ k1, k1 = ixa (s 38) (nmT T n p1) 11 (s 37 4) := ⟨_, rfl⟩
  obtain ⟨k2, hk2⟩ : ∃ k2, k2 = ixa (s 38) (nmT T n p2) 0 (s 37 1) := ⟨_, rfl⟩
  have k1b := ixa_b (s 38) (nmT T n p1) 11 (m := s 37 4) hc.2.2.1
  have k2b := ixa_b (s 38) (nmT T n p2) 0 (m := s 37 1) hc.1.1
  rw [← hk1] at k1b
  rw [← hk2] at k2b
  have rc := rd_caller (d + 1) hT hs row hr hc.2.2
  rw [← hk1] at rc
  rw [e_MorningsReader_readRest_102]
  simp (disch := first | assumption | omega) only [rn, wk, al, wr_e, td_e, tm_e, mset_eq, mset_ne, if_pos, if_neg, Int.reduceAdd, Int.reduceSub, Int.reduceMul, Int.reduceNeg, Int.reduceLT, Int.reduceLE, Int.reduceEq, Int.cast_ofNat_Int, eq_self, and_true, true_and, ite_self, true_or, or_true, false_or, or_false, and_false, false_and, not_true_eq_false, not_false_eq_true, if_true, if_false]
  refine EV_call (CV_mono rc ?_)
  rintro r t (⟨e, ok1, f1, v1, c1⟩ | ⟨e, nok, f1, g8, g9⟩)
  · subst e
    rw [← h2] at c1
    have e38 : t 38 = s 38 := funext (fun i => f1 _ _ (by omega) (by omega))
    have e371 : t 37 1 = s 37 1 := f1 _ _ (by omega) (by omega)
    have rp := rd_place (d + 1) hT c1 row hr (by rw [e371]; exact hc.1)
    rw [e38, e371, ← hk2] at rp
    simp (disch := first | assumption | omega) only [rn, wk, al, wr_e, td_e, tm_e, mset_eq, mset_ne, if_pos, if_neg, Int.reduceAdd, Int.reduceSub, Int.reduceMul, Int.reduceNeg, Int.reduceLT, Int.reduceLE, Int.reduceEq, Int.cast_ofNat_Int, eq_self, and_true, true_and, ite_self, true_or, or_true, false_or, or_false, and_false, false_and, not_true_eq_false, not_false_eq_true, if_true, if_false, e_MorningsReader_readRest_0, e_MorningsReader_readRest_64, e_MorningsReader_readRest_100, e_MorningsReader_readRest_101, e_MorningsReader_readRest_102, e_MorningsReader_readRest_126, e_MorningsReader_readRest_127, e_MorningsReader_readRest_128, e_MorningsReader_readRest_136, e_MorningsReader_readRest_146]
    refine EV_call (CV_mono rp ?_)
    intro r t2 h
    have h01 := RdP01 h
    rcases h with ⟨e, ok2, f2, v2, c2⟩ | ⟨e, nok, f2, g8, g9⟩
    · subst e
      have ne1 := ok1.2
      have ne2 := ok2.2
      have tv1 : t2 72 row = k1 := by rw [f2 _ _ (by omega) (by omega)]; exact v1
      have hq : OrP D T n p1 s row 12 1 t2 := by
        refine Or.inl ⟨rfl, fun c i z1 z2 => by rw [f2 c i z1 (by omega)]; exact f1 c i z1 (by omega), p3, by omega, by rw [h3]; exact c2, fun u hn hu h0 => CV_mono (o_walk (D + 1) h2 h3 hT hu hn (by omega) hk1 hk2) (fun r' w hw => ?_)⟩
        obtain ⟨e', w1, w2, w3, w4, w5⟩ := hw.2.2 ok1 ok2
        exact ⟨e', w5, fun c i z1 z2 => w1 c i z1 (by omega), Or.inr (Or.inl ⟨rfl, ⟨by rw [tv1]; omega, by rw [v2]; omega⟩, by rw [w1 _ _ (by omega) (by omega)]; exact h0, by rw [tv1]; exact w2, by rw [v2]; exact w3⟩)⟩
      simp (disch := first | assumption | omega) only [rn, wk, al, wr_e, td_e, tm_e, mset_eq, mset_ne, if_pos, if_neg, Int.reduceAdd, Int.reduceSub, Int.reduceMul, Int.reduceNeg, Int.reduceLT, Int.reduceLE, Int.reduceEq, Int.cast_ofNat_Int, eq_self, and_true, true_and, ite_self, true_or, or_true, false_or, or_false, and_false, false_and, not_true_eq_false, not_false_eq_true, if_true, if_false, e_MorningsReader_readRest_0, e_MorningsReader_readRest_64, e_MorningsReader_readRest_100, e_MorningsReader_readRest_101, e_MorningsReader_readRest_102, e_MorningsReader_readRest_126, e_MorningsReader_readRest_127, e_MorningsReader_readRest_128, e_MorningsReader_readRest_136, e_MorningsReader_readRest_146]
      exact hq
    · subst e
      have hq : OrP D T n p1 s row 12 0 t2 := by
        refine Or.inr ⟨rfl, by rw [g8]; exact flt_p nmF_p, fun c i z1 z2 => by rw [f2 c i z1 (by omega)]; exact f1 c i (by omega) (by omega), fun u hn hu h0 => ?_⟩
        rw [g8, g9]
        exact CV_mono (o_walk (D + 1) h2 h3 hT hu hn (by omega) hk1 hk2) (fun r' w hw => hw.2.1 ok1 nok)
      simp (disch := first | assumption | omega) only [rn, wk, al, wr_e, td_e, tm_e, mset_eq, mset_ne, if_pos, if_neg, Int.reduceAdd, Int.reduceSub, Int.reduceMul, Int.reduceNeg, Int.reduceLT, Int.reduceLE, Int.reduceEq, Int.cast_ofNat_Int, eq_self, and_true, true_and, ite_self, true_or, or_true, false_or, or_false, and_false, false_and, not_true_eq_false, not_false_eq_true, if_true, if_false, e_MorningsReader_readRest_0, e_MorningsReader_readRest_64, e_MorningsReader_readRest_100, e_MorningsReader_readRest_101, e_MorningsReader_readRest_102, e_MorningsReader_readRest_126, e_MorningsReader_readRest_127, e_MorningsReader_readRest_128, e_MorningsReader_readRest_136, e_MorningsReader_readRest_146]
      exact hq
  · subst e
    have hq : OrP D T n p1 s row 12 0 t := by
      refine Or.inr ⟨rfl, by rw [g8]; exact flt_p nmF_p, fun c i z1 z2 => f1 c i z1 (by omega), fun u hn hu h0 => ?_⟩
      rw [g8, g9]
      exact CV_mono (o_walk (D + 1) h2 h3 hT hu hn (by omega) hk1 hk2) (fun r' w hw => hw.1 nok)
    simp (disch := first | assumption | omega) only [rn, wk, al, wr_e, td_e, tm_e, mset_eq, mset_ne, if_pos, if_neg, Int.reduceAdd, Int.reduceSub, Int.reduceMul, Int.reduceNeg, Int.reduceLT, Int.reduceLE, Int.reduceEq, Int.cast_ofNat_Int, eq_self, and_true, true_and, ite_self, true_or, or_true, false_or, or_false, and_false, false_and, not_true_eq_false, not_false_eq_true, if_true, if_false, e_MorningsReader_readRest_0, e_MorningsReader_readRest_64, e_MorningsReader_readRest_100, e_MorningsReader_readRest_101, e_MorningsReader_readRest_102, e_MorningsReader_readRest_126, e_MorningsReader_readRest_127, e_MorningsReader_readRest_128, e_MorningsReader_readRest_136, e_MorningsReader_readRest_146]
    exact hq
theorem m_say (d D : Nat) {T : Int → Int} {n p1 : Int} (hT : TX T n) {s : Mem} (hs : Cs T n p1 s) (row : Int) (hr : 0 ≤ row ∧ row < 60) (hc : NmC s) : EV (d + 5) o_MorningsReader_readRest 64 [] [10, 69, 37, row] s (OrP D T n p1 s row 10) := by
  obtain ⟨p2, h2⟩ : ∃ p2, p2 = tke T n p1 := ⟨_, rfl⟩
  obtain ⟨p3, h3⟩ : ∃ p3, p3 = tke T n p2 := ⟨_, rfl⟩
  obtain ⟨p4, h4⟩ : ∃ p4, p4 = tke T n p3 := ⟨_, rfl⟩
  obtain ⟨tb1, tb2, -⟩ := tke_b (T := T) hs.1
  have hs1 := hs.1
  obtain ⟨ub1, ub2, -⟩ := tke_b (T := T) (n := n) (p := p2) (by omega)
  obtain ⟨vb1, vb2, -⟩ := tke_b (T := T) (n := n) (p := p3) (by omega)
  obtain ⟨k1, hk1⟩ : ∃ k1, k1 = ixa (s 38) (nmT T n p1) 11 (s 37 4) := ⟨_, rfl⟩
  have k1b := ixa_b (s 38) (nmT T n p1) 11 (m := s 37 4) hc.2.2.1
  rw [← hk1] at k1b
  have rc := rd_caller (d + 1) hT hs row hr hc.2.2
  rw [← hk1] at rc
  rw [e_MorningsReader_readRest_64]
  simp (disch := first | assumption | omega) only [rn, wk, al, wr_e, td_e, tm_e, mset_eq, mset_ne, if_pos, if_neg, Int.reduceAdd, Int.reduceSub, Int.reduceMul, Int.reduceNeg, Int.reduceLT, Int.reduceLE, Int.reduceEq, Int.cast_ofNat_Int, eq_self, and_true, true_and, ite_self, true_or, or_true, false_or, or_false, and_false, false_and, not_true_eq_false, not_false_eq_true, if_true, if_false]
  refine EV_call (CV_mono rc ?_)
  rintro r t (⟨e, ok1, f1, v1, c1⟩ | ⟨e, nok, f1, g8, g9⟩)
  · subst e
    rw [← h2] at c1
    simp (disch := first | assumption | omega) only [rn, wk, al, wr_e, td_e, tm_e, mset_eq, mset_ne, if_pos, if_neg, Int.reduceAdd, Int.reduceSub, Int.reduceMul, Int.reduceNeg, Int.reduceLT, Int.reduceLE, Int.reduceEq, Int.cast_ofNat_Int, eq_self, and_true, true_and, ite_self, true_or, or_true, false_or, or_false, and_false, false_and, not_true_eq_false, not_false_eq_true, if_true, if_false, e_MorningsReader_readRest_0, e_MorningsReader_readRest_64, e_MorningsReader_readRest_100, e_MorningsReader_readRest_101, e_MorningsReader_readRest_102, e_MorningsReader_readRest_126, e_MorningsReader_readRest_127, e_MorningsReader_readRest_128, e_MorningsReader_readRest_136, e_MorningsReader_readRest_146]
    refine EV_call (CV_mono (rd_where (d + 1) hT c1 row 2 hr) ?_)
    rintro r t2 (⟨e, ok2, f2, v2, c2⟩ | ⟨e, nok, f2, g8, g9⟩)
    · subst e
      rw [← h3] at c2
      simp (disch := first | assumption | omega) only [rn, wk, al, wr_e, td_e, tm_e, mset_eq, mset_ne, if_pos, if_neg, Int.reduceAdd, Int.reduceSub, Int.reduceMul, Int.reduceNeg, Int.reduceLT, Int.reduceLE, Int.reduceEq, Int.cast_ofNat_Int, eq_self, and_true, true_and, ite_self, true_or, or_true, false_or, or_false, and_false, false_and, not_true_eq_false, not_false_eq_true, if_true, if_false, e_MorningsReader_readRest_0, e_MorningsReader_readRest_64, e_MorningsReader_readRest_100, e_MorningsReader_readRest_101, e_MorningsReader_readRest_102, e_MorningsReader_readRest_126, e_MorningsReader_readRest_127, e_MorningsReader_readRest_128, e_MorningsReader_readRest_136, e_MorningsReader_readRest_146]
      refine EV_call (CV_mono (rd_number (d + 1) hT c2 row 0 20 hr) ?_)
      rintro r t3 (⟨e, ok3, f3, v3, c3⟩ | ⟨e, nok, f3, g8, g9⟩)
      · subst e
        have ne1 := ok1.2
        have tv1 : t3 72 row = k1 := by rw [f3 _ _ (by omega) (by omega), f2 _ _ (by omega) (by omega)]; exact v1
        have tv2 : t3 73 row = dvT T n p2 := by rw [f3 _ _ (by omega) (by omega)]; exact v2
        have hq : OrP D T n p1 s row 10 1 t3 := by
          refine Or.inl ⟨rfl, fun c i z1 z2 => by rw [f3 c i z1 (by omega), f2 c i z1 (by omega)]; exact f1 c i z1 (by omega), p4, by omega, by rw [h4]; exact c3, fun u hn hu h0 => CV_mono (o_say (D + 1) h2 h3 h4 hT hu hn (by omega) hk1) (fun r' w hw => ?_)⟩
          obtain ⟨e', w1, w2, w3, w4, w5⟩ := hw.2.2.2 ok1 ok2 ok3
          exact ⟨e', w5, fun c i z1 z2 => w1 c i z1 (by omega), Or.inl ⟨rfl, ⟨by rw [tv1]; omega, by rw [tv2]; exact ok2.2, by rw [v3]; exact ok3.2⟩, by rw [w1 _ _ (by omega) (by omega)]; exact h0, by rw [tv1]; exact w2, by rw [tv2]; exact w3, by rw [v3]; exact w4⟩⟩
        simp (disch := first | assumption | omega) only [rn, wk, al, wr_e, td_e, tm_e, mset_eq, mset_ne, if_pos, if_neg, Int.reduceAdd, Int.reduceSub, Int.reduceMul, Int.reduceNeg, Int.reduceLT, Int.reduceLE, Int.reduceEq, Int.cast_ofNat_Int, eq_self, and_true, true_and, ite_self, true_or, or_true, false_or, or_false, and_false, false_and, not_true_eq_false, not_false_eq_true, if_true, if_false, e_MorningsReader_readRest_0, e_MorningsReader_readRest_64, e_MorningsReader_readRest_100, e_MorningsReader_readRest_101, e_MorningsReader_readRest_102, e_MorningsReader_readRest_126, e_MorningsReader_readRest_127, e_MorningsReader_readRest_128, e_MorningsReader_readRest_136, e_MorningsReader_readRest_146]
        exact hq
      · subst e
        have hq : OrP D T n p1 s row 10 0 t3 := by
          refine Or.inr ⟨rfl, by rw [g8]; exact flt_p nF_p, fun c i z1 z2 => by rw [f3 c i z1 (by omega), f2 c i (by omega) (by omega)]; exact f1 c i (by omega) (by omega), fun u hn hu h0 => ?_⟩
          rw [g8, g9]
          exact CV_mono (o_say (D + 1) h2 h3 h4 hT hu hn (by omega) hk1) (fun r' w hw => hw.2.2.1 ok1 ok2 nok)
        simp (disch := first | assumption | omega) only [rn, wk, al, wr_e, td_e, tm_e, mset_eq, mset_ne, if_pos, if_neg, Int.reduceAdd, Int.reduceSub, Int.reduceMul, Int.reduceNeg, Int.reduceLT, Int.reduceLE, Int.reduceEq, Int.cast_ofNat_Int, eq_self, and_true, true_and, ite_self, true_or, or_true, false_or, or_false, and_false, false_and, not_true_eq_false, not_false_eq_true, if_true, if_false, e_MorningsReader_readRest_0, e_MorningsReader_readRest_64, e_MorningsReader_readRest_100, e_MorningsReader_readRest_101, e_MorningsReader_readRest_102, e_MorningsReader_readRest_126, e_MorningsReader_readRest_127, e_MorningsReader_readRest_128, e_MorningsReader_readRest_136, e_MorningsReader_readRest_146]
        exact hq
    · subst e
      have hq : OrP D T n p1 s row 10 0 t2 := by
        refine Or.inr ⟨rfl, by rw [g8]; exact flt_p nF_p, fun c i z1 z2 => by rw [f2 c i z1 (by omega)]; exact f1 c i (by omega) (by omega), fun u hn hu h0 => ?_⟩
        rw [g8, g9]
        exact CV_mono (o_say (D + 1) h2 h3 h4 hT hu hn (by omega) hk1) (fun r' w hw => hw.2.1 ok1 nok)
      simp (disch := first | assumption | omega) only [rn, wk, al, wr_e, td_e, tm_e, mset_eq, mset_ne, if_pos, if_neg, Int.reduceAdd, Int.reduceSub, Int.reduceMul, Int.reduceNeg, Int.reduceLT, Int.reduceLE, Int.reduceEq, Int.cast_ofNat_Int, eq_self, and_true, true_and, ite_self, true_or, or_true, false_or, or_false, and_false, false_and, not_true_eq_false, not_false_eq_true, if_true, if_false, e_MorningsReader_readRest_0, e_MorningsReader_readRest_64, e_MorningsReader_readRest_100, e_MorningsReader_readRest_101, e_MorningsReader_readRest_102, e_MorningsReader_readRest_126, e_MorningsReader_readRest_127, e_MorningsReader_readRest_128, e_MorningsReader_readRest_136, e_MorningsReader_readRest_146]
      exact hq
  · subst e
    have hq : OrP D T n p1 s row 10 0 t := by
      refine Or.inr ⟨rfl, by rw [g8]; exact flt_p nmF_p, fun c i z1 z2 => f1 c i z1 (by omega), fun u hn hu h0 => ?_⟩
      rw [g8, g9]
      exact CV_mono (o_say (D + 1) h2 h3 h4 hT hu hn (by omega) hk1) (fun r' w hw => hw.1 nok)
    simp (disch := first | assumption | omega) only [rn, wk, al, wr_e, td_e, tm_e, mset_eq, mset_ne, if_pos, if_neg, Int.reduceAdd, Int.reduceSub, Int.reduceMul, Int.reduceNeg, Int.reduceLT, Int.reduceLE, Int.reduceEq, Int.cast_ofNat_Int, eq_self, and_true, true_and, ite_self, true_or, or_true, false_or, or_false, and_false, false_and, not_true_eq_false, not_false_eq_true, if_true, if_false, e_MorningsReader_readRest_0, e_MorningsReader_readRest_64, e_MorningsReader_readRest_100, e_MorningsReader_readRest_101, e_MorningsReader_readRest_102, e_MorningsReader_readRest_126, e_MorningsReader_readRest_127, e_MorningsReader_readRest_128, e_MorningsReader_readRest_136, e_MorningsReader_readRest_146]
    exact hq
