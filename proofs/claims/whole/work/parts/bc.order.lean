/-! ===== H2: mornings, orders of the reference ===== -/
/-- the names of the hall, as both hold them -/
def NmU (s u : Mem) : Prop := (u 138 0 = s 37 1 ∧ u 138 2 = s 37 3 ∧ u 138 3 = s 37 4) ∧ ((0 ≤ s 37 1 ∧ s 37 1 ≤ 7) ∧ (0 ≤ s 37 3 ∧ s 37 3 ≤ 4) ∧ (0 ≤ s 37 4 ∧ s 37 4 ≤ 5)) ∧ (∀ i, 0 ≤ i ∧ i < s 37 1 → u 139 i = s 38 i) ∧ (∀ i, 0 ≤ i ∧ i < s 37 3 → u 139 (7 + i) = s 38 (7 + i)) ∧ ∀ i, 0 ≤ i ∧ i < s 37 4 → u 139 (11 + i) = s 38 (11 + i)
theorem NmU_x {s u w : Mem} (h : NmU s u) (hw : ∀ i, w 139 i = u 139 i) (nm : Int) : ixa (w 139) nm 0 (s 37 1) = ixa (s 38) nm 0 (s 37 1) ∧ ixa (w 139) nm 7 (s 37 3) = ixa (s 38) nm 7 (s 37 3) ∧ ixa (w 139) nm 11 (s 37 4) = ixa (s 38) nm 11 (s 37 4) := by
  obtain ⟨-, b, n1', n2', n3'⟩ := h
  refine ⟨ixa_congr (by omega) (fun i x y => ?_), ixa_congr (by omega) (fun i x y => ?_), ixa_congr (by omega) (fun i x y => ?_)⟩
  · rw [hw, Int.zero_add]; exact n1' i ⟨x, y⟩
  · rw [hw]; exact n2' i ⟨x, y⟩
  · rw [hw]; exact n3' i ⟨x, y⟩
/-- what stands in a row that was read well -/
def MFin (T : Int → Int) (n : Int) (u : Mem) (q : Int) (v1 v2 v3 pe r : Int) (w : Mem) : Prop := r = 1 ∧ (∀ c i, ¬ (c = 137 ∧ 12 ≤ i ∧ i ≤ 15) → ¬ (c = 138 ∧ (i = q + 1 ∨ i = q + 2 ∨ i = q + 3)) → w c i = u c i) ∧ w 138 (q + 1) = v1 ∧ w 138 (q + 2) = v2 ∧ w 138 (q + 3) = v3 ∧ Rs_ T n pe w
def SyP (T : Int → Int) (n p1 p2 p3 p4 k1 q : Int) (u : Mem) (r : Int) (w : Mem) : Prop := (¬ nmOk T n p1 k1 → NoR u (flt T n p1 (nmF T n p1)) (tkq T n p1) r w) ∧ (nmOk T n p1 k1 → ¬ nOk T n p2 0 2 → NoR u (flt T n p2 (nF T n p2)) (tkq T n p2) r w) ∧ (nmOk T n p1 k1 → nOk T n p2 0 2 → ¬ nOk T n p3 0 20 → NoR u (flt T n p3 (nF T n p3)) (tkq T n p3) r w) ∧ (nmOk T n p1 k1 → nOk T n p2 0 2 → nOk T n p3 0 20 → MFin T n u q k1 (dvT T n p2) (dvT T n p3) p4 r w)
theorem o_say (D : Nat) {T : Int → Int} {n p1 p2 p3 p4 k1 q : Int} (h2 : p2 = tke T n p1) (h3 : p3 = tke T n p2) (h4 : p4 = tke T n p3) (hT : TX T n) {s u : Mem} (hu : Rs_ T n p1 u) (hn : NmU s u) (hq : 3972 ≤ q ∧ q + 5 < 4340) (hk1 : k1 = ixa (s 38) (nmT T n p1) 11 (s 37 4)) : CV (D + 6) 264 [137, 10, q] u (SyP T n p1 p2 p3 p4 k1 q u) := by
  have b := hn.2.1
  have x1 := (NmU_x hn (fun _ => rfl) (nmT T n p1)).2.2
  rw [← hk1] at x1
  apply c_R_morningOrder
  simp (disch := first | assumption | omega) only [rn, wk, al, wr_e, td_e, tm_e, mset_eq, mset_ne, if_pos, if_neg, Int.reduceAdd, Int.reduceSub, Int.reduceMul, Int.reduceNeg, Int.reduceLT, Int.reduceLE, Int.reduceEq, Int.cast_ofNat_Int, eq_self, and_true, true_and, ite_self, true_or, or_true, false_or, or_false, and_false, false_and, not_true_eq_false, not_false_eq_true, if_true, if_false, e_R_morningOrder_0, e_R_morningOrder_44, e_R_morningOrder_83, e_R_morningOrder_84, e_R_morningOrder_85, e_R_morningOrder_109, e_R_morningOrder_110, e_R_morningOrder_111, e_R_morningOrder_122, e_R_morningOrder_128]
  refine EV_call (CV_mono (rr_caller D hT hu (s 37 4) (q + 1) k1 b.2.2 hn.1.2.2 (by omega) x1) ?_)
  rintro r v (⟨e, ok1, f1, v1, r1⟩ | ⟨e, nok, f1, g8, g9⟩)
  · subst e
    rw [← h2] at r1
    simp (disch := first | assumption | omega) only [rn, wk, al, wr_e, td_e, tm_e, mset_eq, mset_ne, if_pos, if_neg, Int.reduceAdd, Int.reduceSub, Int.reduceMul, Int.reduceNeg, Int.reduceLT, Int.reduceLE, Int.reduceEq, Int.cast_ofNat_Int, eq_self, and_true, true_and, ite_self, true_or, or_true, false_or, or_false, and_false, false_and, not_true_eq_false, not_false_eq_true, if_true, if_false, e_R_morningOrder_0, e_R_morningOrder_44, e_R_morningOrder_83, e_R_morningOrder_84, e_R_morningOrder_85, e_R_morningOrder_109, e_R_morningOrder_110, e_R_morningOrder_111, e_R_morningOrder_122, e_R_morningOrder_128]
    refine EV_call (CV_mono (rr_number (D + 2) hT r1 (q + 2) 0 2 (by omega)) ?_)
    rintro r x (⟨e, ok2, f2, v2, r2⟩ | ⟨e, nok, f2, g8, g9⟩)
    · subst e
      rw [← h3] at r2
      simp (disch := first | assumption | omega) only [rn, wk, al, wr_e, td_e, tm_e, mset_eq, mset_ne, if_pos, if_neg, Int.reduceAdd, Int.reduceSub, Int.reduceMul, Int.reduceNeg, Int.reduceLT, Int.reduceLE, Int.reduceEq, Int.cast_ofNat_Int, eq_self, and_true, true_and, ite_self, true_or, or_true, false_or, or_false, and_false, false_and, not_true_eq_false, not_false_eq_true, if_true, if_false, e_R_morningOrder_0, e_R_morningOrder_44, e_R_morningOrder_83, e_R_morningOrder_84, e_R_morningOrder_85, e_R_morningOrder_109, e_R_morningOrder_110, e_R_morningOrder_111, e_R_morningOrder_122, e_R_morningOrder_128]
      refine EV_call (CV_mono (rr_number (D + 2) hT r2 (q + 3) 0 20 (by omega)) ?_)
      rintro r y (⟨e, ok3, f3, v3, r3⟩ | ⟨e, nok, f3, g8, g9⟩)
      · subst e
        rw [← h4] at r3
        have hq : MFin T n u q k1 (dvT T n p2) (dvT T n p3) p4 1 y := ⟨rfl, fun c i z1 z2 => by rw [f3 c i z1 (by omega), f2 c i z1 (by omega)]; exact f1 c i z1 (by omega), by rw [f3 _ _ (by omega) (by omega), f2 _ _ (by omega) (by omega)]; exact v1, by rw [f3 _ _ (by omega) (by omega)]; exact v2, v3, r3⟩
        have hp : SyP T n p1 p2 p3 p4 k1 q u 1 y := by
          refine ⟨?_, ?_, ?_, ?_⟩ <;> (intros; first | contradiction | exact hq)
        simp (disch := first | assumption | omega) only [rn, wk, al, wr_e, td_e, tm_e, mset_eq, mset_ne, if_pos, if_neg, Int.reduceAdd, Int.reduceSub, Int.reduceMul, Int.reduceNeg, Int.reduceLT, Int.reduceLE, Int.reduceEq, Int.cast_ofNat_Int, eq_self, and_true, true_and, ite_self, true_or, or_true, false_or, or_false, and_false, false_and, not_true_eq_false, not_false_eq_true, if_true, if_false, e_R_morningOrder_0, e_R_morningOrder_44, e_R_morningOrder_83, e_R_morningOrder_84, e_R_morningOrder_85, e_R_morningOrder_109, e_R_morningOrder_110, e_R_morningOrder_111, e_R_morningOrder_122, e_R_morningOrder_128]
        exact hp
      · subst e
        have hq : NoR u (flt T n p3 (nF T n p3)) (tkq T n p3) 0 y := ⟨rfl, fun c i z1 z2 z3 => by rw [f3 c i (by omega) (by omega), f2 c i (by omega) (by omega)]; exact f1 c i (by omega) (by omega), g8, g9⟩
        have hp : SyP T n p1 p2 p3 p4 k1 q u 0 y := by
          refine ⟨?_, ?_, ?_, ?_⟩ <;> (intros; first | contradiction | exact hq)
        simp (disch := first | assumption | omega) only [rn, wk, al, wr_e, td_e, tm_e, mset_eq, mset_ne, if_pos, if_neg, Int.reduceAdd, Int.reduceSub, Int.reduceMul, Int.reduceNeg, Int.reduceLT, Int.reduceLE, Int.reduceEq, Int.cast_ofNat_Int, eq_self, and_true, true_and, ite_self, true_or, or_true, false_or, or_false, and_false, false_and, not_true_eq_false, not_false_eq_true, if_true, if_false, e_R_morningOrder_0, e_R_morningOrder_44, e_R_morningOrder_83, e_R_morningOrder_84, e_R_morningOrder_85, e_R_morningOrder_109, e_R_morningOrder_110, e_R_morningOrder_111, e_R_morningOrder_122, e_R_morningOrder_128]
        exact hp
    · subst e
      have hq : NoR u (flt T n p2 (nF T n p2)) (tkq T n p2) 0 x := ⟨rfl, fun c i z1 z2 z3 => by rw [f2 c i (by omega) (by omega)]; exact f1 c i (by omega) (by omega), g8, g9⟩
      have hp : SyP T n p1 p2 p3 p4 k1 q u 0 x := by
        refine ⟨?_, ?_, ?_, ?_⟩ <;> (intros; first | contradiction | exact hq)
      simp (disch := first | assumption | omega) only [rn, wk, al, wr_e, td_e, tm_e, mset_eq, mset_ne, if_pos, if_neg, Int.reduceAdd, Int.reduceSub, Int.reduceMul, Int.reduceNeg, Int.reduceLT, Int.reduceLE, Int.reduceEq, Int.cast_ofNat_Int, eq_self, and_true, true_and, ite_self, true_or, or_true, false_or, or_false, and_false, false_and, not_true_eq_false, not_false_eq_true, if_true, if_false, e_R_morningOrder_0, e_R_morningOrder_44, e_R_morningOrder_83, e_R_morningOrder_84, e_R_morningOrder_85, e_R_morningOrder_109, e_R_morningOrder_110, e_R_morningOrder_111, e_R_morningOrder_122, e_R_morningOrder_128]
      exact hp
  · subst e
    have hq : NoR u (flt T n p1 (nmF T n p1)) (tkq T n p1) 0 v := ⟨rfl, fun c i z1 z2 z3 => f1 c i (by omega) (by omega), g8, g9⟩
    have hp : SyP T n p1 p2 p3 p4 k1 q u 0 v := by
      refine ⟨?_, ?_, ?_, ?_⟩ <;> (intros; first | contradiction | exact hq)
    simp (disch := first | assumption | omega) only [rn, wk, al, wr_e, td_e, tm_e, mset_eq, mset_ne, if_pos, if_neg, Int.reduceAdd, Int.reduceSub, Int.reduceMul, Int.reduceNeg, Int.reduceLT, Int.reduceLE, Int.reduceEq, Int.cast_ofNat_Int, eq_self, and_true, true_and, ite_self, true_or, or_true, false_or, or_false, and_false, false_and, not_true_eq_false, not_false_eq_true, if_true, if_false, e_R_morningOrder_0, e_R_morningOrder_44, e_R_morningOrder_83, e_R_morningOrder_84, e_R_morningOrder_85, e_R_morningOrder_109, e_R_morningOrder_110, e_R_morningOrder_111, e_R_morningOrder_122, e_R_morningOrder_128]
    exact hp
def WkP (T : Int → Int) (n p1 p2 p3 k1 k2 q : Int) (u : Mem) (r : Int) (w : Mem) : Prop := (¬ nmOk T n p1 k1 → NoR u (flt T n p1 (nmF T n p1)) (tkq T n p1) r w) ∧ (nmOk T n p1 k1 → ¬ nmOk T n p2 k2 → NoR u (flt T n p2 (nmF T n p2)) (tkq T n p2) r w) ∧ (nmOk T n p1 k1 → nmOk T n p2 k2 → MFin T n u q k1 k2 (u 138 (q + 3)) p3 r w)
theorem o_walk (D : Nat) {T : Int → Int} {n p1 p2 p3 k1 k2 q : Int} (h2 : p2 = tke T n p1) (h3 : p3 = tke T n p2) (hT : TX T n) {s u : Mem} (hu : Rs_ T n p1 u) (hn : NmU s u) (hq : 3972 ≤ q ∧ q + 5 < 4340) (hk1 : k1 = ixa (s 38) (nmT T n p1) 11 (s 37 4)) (hk2 : k2 = ixa (s 38) (nmT T n p2) 0 (s 37 1)) : CV (D + 6) 264 [137, 12, q] u (WkP T n p1 p2 p3 k1 k2 q u) := by
  have b := hn.2.1
  have x1 := (NmU_x hn (fun _ => rfl) (nmT T n p1)).2.2
  rw [← hk1] at x1
  apply c_R_morningOrder
  simp (disch := first | assumption | omega) only [rn, wk, al, wr_e, td_e, tm_e, mset_eq, mset_ne, if_pos, if_neg, Int.reduceAdd, Int.reduceSub, Int.reduceMul, Int.reduceNeg, Int.reduceLT, Int.reduceLE, Int.reduceEq, Int.cast_ofNat_Int, eq_self, and_true, true_and, ite_self, true_or, or_true, false_or, or_false, and_false, false_and, not_true_eq_false, not_false_eq_true, if_true, if_false, e_R_morningOrder_0, e_R_morningOrder_44, e_R_morningOrder_83, e_R_morningOrder_84, e_R_morningOrder_85, e_R_morningOrder_109, e_R_morningOrder_110, e_R_morningOrder_111, e_R_morningOrder_122, e_R_morningOrder_128]
  refine EV_call (CV_mono (rr_caller D hT hu (s 37 4) (q + 1) k1 b.2.2 hn.1.2.2 (by omega) x1) ?_)
  rintro r v (⟨e, ok1, f1, v1, r1⟩ | ⟨e, nok, f1, g8, g9⟩)
  · subst e
    rw [← h2] at r1
    have x2 := (NmU_x hn (fun i => f1 139 i (by omega) (by omega)) (nmT T n p2)).1
    rw [← hk2] at x2
    simp (disch := first | assumption | omega) only [rn, wk, al, wr_e, td_e, tm_e, mset_eq, mset_ne, if_pos, if_neg, Int.reduceAdd, Int.reduceSub, Int.reduceMul, Int.reduceNeg, Int.reduceLT, Int.reduceLE, Int.reduceEq, Int.cast_ofNat_Int, eq_self, and_true, true_and, ite_self, true_or, or_true, false_or, or_false, and_false, false_and, not_true_eq_false, not_false_eq_true, if_true, if_false, e_R_morningOrder_0, e_R_morningOrder_44, e_R_morningOrder_83, e_R_morningOrder_84, e_R_morningOrder_85, e_R_morningOrder_109, e_R_morningOrder_110, e_R_morningOrder_111, e_R_morningOrder_122, e_R_morningOrder_128]
    refine EV_call (CV_mono (rr_place D hT r1 (s 37 1) (q + 2) k2 b.1 (by rw [f1 _ _ (by omega) (by omega)]; exact hn.1.1) (by omega) x2) ?_)
    rintro r x (⟨e, ok2, f2, v2, r2⟩ | ⟨e, nok, f2, g8, g9⟩)
    · subst e
      rw [← h3] at r2
      have hq : MFin T n u q k1 k2 (u 138 (q + 3)) p3 1 x := ⟨rfl, fun c i z1 z2 => by rw [f2 c i z1 (by omega)]; exact f1 c i z1 (by omega), by rw [f2 _ _ (by omega) (by omega)]; exact v1, v2, by rw [f2 _ _ (by omega) (by omega)]; exact f1 _ _ (by omega) (by omega), r2⟩
      have hp : WkP T n p1 p2 p3 k1 k2 q u 1 x := by
        refine ⟨?_, ?_, ?_⟩ <;> (intros; first | contradiction | exact hq)
      simp (disch := first | assumption | omega) only [rn, wk, al, wr_e, td_e, tm_e, mset_eq, mset_ne, if_pos, if_neg, Int.reduceAdd, Int.reduceSub, Int.reduceMul, Int.reduceNeg, Int.reduceLT, Int.reduceLE, Int.reduceEq, Int.cast_ofNat_Int, eq_self, and_true, true_and, ite_self, true_or, or_true, false_or, or_false, and_false, false_and, not_true_eq_false, not_false_eq_true, if_true, if_false, e_R_morningOrder_0, e_R_morningOrder_44, e_R_morningOrder_83, e_R_morningOrder_84, e_R_morningOrder_85, e_R_morningOrder_109, e_R_morningOrder_110, e_R_morningOrder_111, e_R_morningOrder_122, e_R_morningOrder_128]
      exact hp
    · subst e
      have hq : NoR u (flt T n p2 (nmF T n p2)) (tkq T n p2) 0 x := ⟨rfl, fun c i z1 z2 z3 => by rw [f2 c i (by omega) (by omega)]; exact f1 c i (by omega) (by omega), g8, g9⟩
      have hp : WkP T n p1 p2 p3 k1 k2 q u 0 x := by
        refine ⟨?_, ?_, ?_⟩ <;> (intros; first | contradiction | exact hq)
      simp (disch := first | assumption | omega) only [rn, wk, al, wr_e, td_e, tm_e, mset_eq, mset_ne, if_pos, if_neg, Int.reduceAdd, Int.reduceSub, Int.reduceMul, Int.reduceNeg, Int.reduceLT, Int.reduceLE, Int.reduceEq, Int.cast_ofNat_Int, eq_self, and_true, true_and, ite_self, true_or, or_true, false_or, or_false, and_false, false_and, not_true_eq_false, not_false_eq_true, if_true, if_false, e_R_morningOrder_0, e_R_morningOrder_44, e_R_morningOrder_83, e_R_morningOrder_84, e_R_morningOrder_85, e_R_morningOrder_109, e_R_morningOrder_110, e_R_morningOrder_111, e_R_morningOrder_122, e_R_morningOrder_128]
      exact hp
  · subst e
    have hq : NoR u (flt T n p1 (nmF T n p1)) (tkq T n p1) 0 v := ⟨rfl, fun c i z1 z2 z3 => f1 c i (by omega) (by omega), g8, g9⟩
    have hp : WkP T n p1 p2 p3 k1 k2 q u 0 v := by
      refine ⟨?_, ?_, ?_⟩ <;> (intros; first | contradiction | exact hq)
    simp (disch := first | assumption | omega) only [rn, wk, al, wr_e, td_e, tm_e, mset_eq, mset_ne, if_pos, if_neg, Int.reduceAdd, Int.reduceSub, Int.reduceMul, Int.reduceNeg, Int.reduceLT, Int.reduceLE, Int.reduceEq, Int.cast_ofNat_Int, eq_self, and_true, true_and, ite_self, true_or, or_true, false_or, or_false, and_false, false_and, not_true_eq_false, not_false_eq_true, if_true, if_false, e_R_morningOrder_0, e_R_morningOrder_44, e_R_morningOrder_83, e_R_morningOrder_84, e_R_morningOrder_85, e_R_morningOrder_109, e_R_morningOrder_110, e_R_morningOrder_111, e_R_morningOrder_122, e_R_morningOrder_128]
    exact hp
def LoP (T : Int → Int) (n p1 p2 q : Int) (u : Mem) (r : Int) (w : Mem) : Prop := (¬ nOk T n p1 1 99 → NoR u (flt T n p1 (nF T n p1)) (tkq T n p1) r w) ∧ (nOk T n p1 1 99 → MFin T n u q (dvT T n p1) (u 138 (q + 2)) (u 138 (q + 3)) p2 r w)
theorem o_loop (D : Nat) {T : Int → Int} {n p1 p2 q : Int} (h2 : p2 = tke T n p1) (hT : TX T n) {u : Mem} (hu : Rs_ T n p1 u) (hq : 3972 ≤ q ∧ q + 5 < 4340) : CV (D + 6) 264 [137, 16, q] u (LoP T n p1 p2 q u) := by
  apply c_R_morningOrder
  simp (disch := first | assumption | omega) only [rn, wk, al, wr_e, td_e, tm_e, mset_eq, mset_ne, if_pos, if_neg, Int.reduceAdd, Int.reduceSub, Int.reduceMul, Int.reduceNeg, Int.reduceLT, Int.reduceLE, Int.reduceEq, Int.cast_ofNat_Int, eq_self, and_true, true_and, ite_self, true_or, or_true, false_or, or_false, and_false, false_and, not_true_eq_false, not_false_eq_true, if_true, if_false, e_R_morningOrder_0, e_R_morningOrder_44, e_R_morningOrder_83, e_R_morningOrder_84, e_R_morningOrder_85, e_R_morningOrder_109, e_R_morningOrder_110, e_R_morningOrder_111, e_R_morningOrder_122, e_R_morningOrder_128]
  refine EV_call (CV_mono (rr_number (D + 2) hT hu (q + 1) 1 99 (by omega)) ?_)
  rintro r v (⟨e, ok1, f1, v1, r1⟩ | ⟨e, nok, f1, g8, g9⟩)
  · subst e
    rw [← h2] at r1
    have hq : MFin T n u q (dvT T n p1) (u 138 (q + 2)) (u 138 (q + 3)) p2 1 v := ⟨rfl, fun c i z1 z2 => f1 c i z1 (by omega), v1, f1 _ _ (by omega) (by omega), f1 _ _ (by omega) (by omega), r1⟩
    have hp : LoP T n p1 p2 q u 1 v := by
      refine ⟨?_, ?_⟩ <;> (intros; first | contradiction | exact hq)
    simp (disch := first | assumption | omega) only [rn, wk, al, wr_e, td_e, tm_e, mset_eq, mset_ne, if_pos, if_neg, Int.reduceAdd, Int.reduceSub, Int.reduceMul, Int.reduceNeg, Int.reduceLT, Int.reduceLE, Int.reduceEq, Int.cast_ofNat_Int, eq_self, and_true, true_and, ite_self, true_or, or_true, false_or, or_false, and_false, false_and, not_true_eq_false, not_false_eq_true, if_true, if_false, e_R_morningOrder_0, e_R_morningOrder_44, e_R_morningOrder_83, e_R_morningOrder_84, e_R_morningOrder_85, e_R_morningOrder_109, e_R_morningOrder_110, e_R_morningOrder_111, e_R_morningOrder_122, e_R_morningOrder_128]
    exact hp
  · subst e
    have hq : NoR u (flt T n p1 (nF T n p1)) (tkq T n p1) 0 v := ⟨rfl, fun c i z1 z2 z3 => f1 c i (by omega) (by omega), g8, g9⟩
    have hp : LoP T n p1 p2 q u 0 v := by
      refine ⟨?_, ?_⟩ <;> (intros; first | contradiction | exact hq)
    simp (disch := first | assumption | omega) only [rn, wk, al, wr_e, td_e, tm_e, mset_eq, mset_ne, if_pos, if_neg, Int.reduceAdd, Int.reduceSub, Int.reduceMul, Int.reduceNeg, Int.reduceLT, Int.reduceLE, Int.reduceEq, Int.cast_ofNat_Int, eq_self, and_true, true_and, ite_self, true_or, or_true, false_or, or_false, and_false, false_and, not_true_eq_false, not_false_eq_true, if_true, if_false, e_R_morningOrder_0, e_R_morningOrder_44, e_R_morningOrder_83, e_R_morningOrder_84, e_R_morningOrder_85, e_R_morningOrder_109, e_R_morningOrder_110, e_R_morningOrder_111, e_R_morningOrder_122, e_R_morningOrder_128]
    exact hp
theorem o_none (D : Nat) (k q : Int) (u : Mem) (hk : k = 11 ∨ k = 13 ∨ k = 14 ∨ k = 17 ∨ k = 18) : sem (D + 1) 264 [137, k, q] u = some (1, u) := by
  apply CV_eq; apply c_R_morningOrder
  rcases hk with e | e | e | e | e
  all_goals
    subst e
    simp (disch := first | assumption | omega) only [rn, wk, al, wr_e, td_e, tm_e, mset_eq, mset_ne, if_pos, if_neg, Int.reduceAdd, Int.reduceSub, Int.reduceMul, Int.reduceNeg, Int.reduceLT, Int.reduceLE, Int.reduceEq, Int.cast_ofNat_Int, eq_self, and_true, true_and, ite_self, true_or, or_true, false_or, or_false, and_false, false_and, not_true_eq_false, not_false_eq_true, if_true, if_false, e_R_morningOrder_0, e_R_morningOrder_44, e_R_morningOrder_83, e_R_morningOrder_84, e_R_morningOrder_85, e_R_morningOrder_109, e_R_morningOrder_110, e_R_morningOrder_111, e_R_morningOrder_122, e_R_morningOrder_128]
