/-! ===== H2: mornings, tests of the reference ===== -/
def TFin (T : Int → Int) (n : Int) (u : Mem) (q a0 a1 a2 a3 a5 pe r : Int) (w : Mem) : Prop := r = 1 ∧ (∀ c i, ¬ (c = 137 ∧ 12 ≤ i ∧ i ≤ 15) → ¬ (c = 138 ∧ q ≤ i ∧ i ≤ q + 5) → w c i = u c i) ∧ w 138 q = a0 ∧ w 138 (q + 1) = a1 ∧ w 138 (q + 2) = a2 ∧ w 138 (q + 3) = a3 ∧ w 138 (q + 5) = a5 ∧ Rs_ T n pe w
theorem kk3 {T : Int → Int} {n p : Int} (h : tkk T n p = 3) : 59 ≤ T (tkq T n p) ∧ T (tkq T n p) ≤ 62 := by
  unfold tkk at h
  split at h
  · omega
  · split at h
    · omega
    · split at h
      · split at h <;> omega
      · split at h
        · assumption
        · omega
/-- from the sign of a test on -/
theorem t_111 (D : Nat) {T : Int → Int} {n p5 p6 p7 : Int} (h6 : p6 = tke T n p5) (h7 : p7 = tke T n p6) (hT : TX T n) {x : Mem} (hx : Rs_ T n p5 x) (q k : Int) (hq : 3972 ≤ q ∧ q + 5 < 4340) (hi : Int) (hk : (k = 19 ∧ hi = 999) ∨ (k = 20 ∧ hi = 8)) (Q : Int → Mem → Prop) (g0 : ¬ gOk T n p5 → ∀ y, NoR x (flt T n p5 2) (tkq T n p5) 0 y → Q 0 y) (g1 : gOk T n p5 → ¬ nOk T n p6 0 hi → ∀ y, NoR x (flt T n p6 (nF T n p6)) (tkq T n p6) 0 y → Q 0 y) (g2 : gOk T n p5 → nOk T n p6 0 hi → ∀ y, (∀ c i, ¬ (c = 137 ∧ 12 ≤ i ∧ i ≤ 15) → ¬ (c = 138 ∧ (i = q + 5 ∨ i = q + 2)) → y c i = x c i) → y 138 (q + 5) = T (tkq T n p5) → y 138 (q + 2) = dvT T n p6 → Rs_ T n p7 y → Q 1 y) : EV (D + 5) o_R_test 111 [] [137, q, k] x Q := by
  obtain ⟨b1, hb1, q1⟩ := q_isSign (D + 4) hx 60
  obtain ⟨b2, hb2, q2⟩ := q_isSign (D + 4) hx 62
  obtain ⟨b3, hb3, q3⟩ := q_isSign (D + 4) hx 61
  have qf := q_Rfails (D + 4) x 2 hx
  have h144 : gOk T n p5 → EV (D + 5) o_R_test 144 [] [137, q, k] x Q := fun ok => by
    have e15 : x 137 15 = T (tkq T n p5) := hx.2.1.2.2.2.2.2 ok.1
    obtain ⟨y, hy⟩ : ∃ y, y = mset x 138 (q + 5) (T (tkq T n p5)) := ⟨_, rfl⟩
    have yf : ∀ c i, ¬ (c = 138 ∧ i = q + 5) → y c i = x c i := fun c i h => by rw [hy, mset_ne (by omega)]
    have yr : Rs_ T n p5 y := Rs_w (fun i _ => yf _ _ (by omega)) (fun i => yf _ _ (by omega)) hx
    have y5 : y 138 (q + 5) = T (tkq T n p5) := by rw [hy, mset_eq rfl rfl]
    rw [e_R_test_144]
    simp (disch := first | assumption | omega) only [rn, wk, al, wr_e, td_e, tm_e, mset_eq, mset_ne, if_pos, if_neg, Int.reduceAdd, Int.reduceSub, Int.reduceMul, Int.reduceNeg, Int.reduceLT, Int.reduceLE, Int.reduceEq, Int.cast_ofNat_Int, eq_self, and_true, true_and, ite_self, true_or, or_true, false_or, or_false, and_false, false_and, not_true_eq_false, not_false_eq_true, if_true, if_false, e15, ← hy]
    refine EV_call (CV_mono (r_ahd (D + 3) hT yr) ?_)
    rintro r v ⟨a, b⟩
    rw [← h6] at b
    have fin : ∀ r z, RrP T n p6 v (nOk T n p6 0 hi) (nF T n p6) (q + 2) (dvT T n p6) r z → Q r z := fun r z h => by
      rcases h with ⟨e, ok6, f, v2, r6⟩ | ⟨e, nok, f, g8, g9⟩
      · subst e
        rw [← h7] at r6
        exact g2 ok ok6 z (fun c i z1 z2 => by rw [f c i z1 (by omega), a c i z1]; exact yf c i (by omega)) (by rw [f _ _ (by omega) (by omega), a _ _ (by omega)]; exact y5) v2 r6
      · subst e
        exact g1 ok nok z ⟨rfl, fun c i z1 z2 z3 => by rw [f c i (by omega) (by omega), a c i (by omega)]; exact yf c i (by omega), g8, g9⟩
    rcases hk with ⟨ek, eh⟩ | ⟨ek, eh⟩
    · subst ek eh
      simp (disch := first | assumption | omega) only [rn, wk, al, wr_e, td_e, tm_e, mset_eq, mset_ne, if_pos, if_neg, Int.reduceAdd, Int.reduceSub, Int.reduceMul, Int.reduceNeg, Int.reduceLT, Int.reduceLE, Int.reduceEq, Int.cast_ofNat_Int, eq_self, and_true, true_and, ite_self, true_or, or_true, false_or, or_false, and_false, false_and, not_true_eq_false, not_false_eq_true, if_true, if_false, e_R_test_0, e_R_test_25, e_R_test_70, e_R_test_71, e_R_test_72, e_R_test_109, e_R_test_111, e_R_test_144, e_R_test_177, e_R_test_179]
      refine EV_call (CV_mono (rr_number (D + 2) hT b (q + 2) 0 999 (by omega)) ?_)
      intro r z h
      have h01 := RrP01 h
      have hz := fin r z h
      simp (disch := first | assumption | omega) only [rn, wk, al, wr_e, td_e, tm_e, mset_eq, mset_ne, if_pos, if_neg, Int.reduceAdd, Int.reduceSub, Int.reduceMul, Int.reduceNeg, Int.reduceLT, Int.reduceLE, Int.reduceEq, Int.cast_ofNat_Int, eq_self, and_true, true_and, ite_self, true_or, or_true, false_or, or_false, and_false, false_and, not_true_eq_false, not_false_eq_true, if_true, if_false, e_R_test_0, e_R_test_25, e_R_test_70, e_R_test_71, e_R_test_72, e_R_test_109, e_R_test_111, e_R_test_144, e_R_test_177, e_R_test_179]
      exact hz
    · subst ek eh
      simp (disch := first | assumption | omega) only [rn, wk, al, wr_e, td_e, tm_e, mset_eq, mset_ne, if_pos, if_neg, Int.reduceAdd, Int.reduceSub, Int.reduceMul, Int.reduceNeg, Int.reduceLT, Int.reduceLE, Int.reduceEq, Int.cast_ofNat_Int, eq_self, and_true, true_and, ite_self, true_or, or_true, false_or, or_false, and_false, false_and, not_true_eq_false, not_false_eq_true, if_true, if_false, e_R_test_0, e_R_test_25, e_R_test_70, e_R_test_71, e_R_test_72, e_R_test_109, e_R_test_111, e_R_test_144, e_R_test_177, e_R_test_179]
      refine EV_call (CV_mono (rr_number (D + 2) hT b (q + 2) 0 8 (by omega)) ?_)
      intro r z h
      have h01 := RrP01 h
      have hz := fin r z h
      simp (disch := first | assumption | omega) only [rn, wk, al, wr_e, td_e, tm_e, mset_eq, mset_ne, if_pos, if_neg, Int.reduceAdd, Int.reduceSub, Int.reduceMul, Int.reduceNeg, Int.reduceLT, Int.reduceLE, Int.reduceEq, Int.cast_ofNat_Int, eq_self, and_true, true_and, ite_self, true_or, or_true, false_or, or_false, and_false, false_and, not_true_eq_false, not_false_eq_true, if_true, if_false, e_R_test_0, e_R_test_25, e_R_test_70, e_R_test_71, e_R_test_72, e_R_test_109, e_R_test_111, e_R_test_144, e_R_test_177, e_R_test_179]
      exact hz
  rw [e_R_test_111]
  rcases hb1 with ⟨e1, s1⟩ | ⟨e1, s1⟩
  · subst e1
    have hz := h144 ⟨s1.1, by omega⟩
    simp (disch := first | assumption | omega) only [rn, wk, al, wr_e, td_e, tm_e, mset_eq, mset_ne, if_pos, if_neg, Int.reduceAdd, Int.reduceSub, Int.reduceMul, Int.reduceNeg, Int.reduceLT, Int.reduceLE, Int.reduceEq, Int.cast_ofNat_Int, eq_self, and_true, true_and, ite_self, true_or, or_true, false_or, or_false, and_false, false_and, not_true_eq_false, not_false_eq_true, if_true, if_false, q1]
    exact hz
  · subst e1
    rcases hb2 with ⟨e2, s2⟩ | ⟨e2, s2⟩
    · subst e2
      have hz := h144 ⟨s2.1, by omega⟩
      simp (disch := first | assumption | omega) only [rn, wk, al, wr_e, td_e, tm_e, mset_eq, mset_ne, if_pos, if_neg, Int.reduceAdd, Int.reduceSub, Int.reduceMul, Int.reduceNeg, Int.reduceLT, Int.reduceLE, Int.reduceEq, Int.cast_ofNat_Int, eq_self, and_true, true_and, ite_self, true_or, or_true, false_or, or_false, and_false, false_and, not_true_eq_false, not_false_eq_true, if_true, if_false, q1, q2]
      exact hz
    · subst e2
      rcases hb3 with ⟨e3, s3⟩ | ⟨e3, s3⟩
      · subst e3
        have hz := h144 ⟨s3.1, by omega⟩
        simp (disch := first | assumption | omega) only [rn, wk, al, wr_e, td_e, tm_e, mset_eq, mset_ne, if_pos, if_neg, Int.reduceAdd, Int.reduceSub, Int.reduceMul, Int.reduceNeg, Int.reduceLT, Int.reduceLE, Int.reduceEq, Int.cast_ofNat_Int, eq_self, and_true, true_and, ite_self, true_or, or_true, false_or, or_false, and_false, false_and, not_true_eq_false, not_false_eq_true, if_true, if_false, q1, q2, q3]
        exact hz
      · subst e3
        have nok : ¬ gOk T n p5 := fun h => by
          have := kk3 h.1
          have n1 : T (tkq T n p5) ≠ 60 := fun e => s1 ⟨h.1, e⟩
          have n2 : T (tkq T n p5) ≠ 62 := fun e => s2 ⟨h.1, e⟩
          have n3 : T (tkq T n p5) ≠ 61 := fun e => s3 ⟨h.1, e⟩
          have n4 := h.2
          omega
        have hz := g0 nok _ (NoR_f (fun _ _ _ _ _ => rfl))
        simp (disch := first | assumption | omega) only [rn, wk, al, wr_e, td_e, tm_e, mset_eq, mset_ne, if_pos, if_neg, Int.reduceAdd, Int.reduceSub, Int.reduceMul, Int.reduceNeg, Int.reduceLT, Int.reduceLE, Int.reduceEq, Int.cast_ofNat_Int, eq_self, and_true, true_and, ite_self, true_or, or_true, false_or, or_false, and_false, false_and, not_true_eq_false, not_false_eq_true, if_true, if_false, q1, q2, q3, qf]
        exact hz
def TaP (T : Int → Int) (n p2 p3 p4 k1 k2 q : Int) (u : Mem) (r : Int) (w : Mem) : Prop := (¬ nmOk T n p2 k1 → NoR u (flt T n p2 (nmF T n p2)) (tkq T n p2) r w) ∧ (nmOk T n p2 k1 → ¬ nmOk T n p3 k2 → NoR u (flt T n p3 (nmF T n p3)) (tkq T n p3) r w) ∧ (nmOk T n p2 k1 → nmOk T n p3 k2 → TFin T n u q 1509 k1 k2 (u 138 (q + 3)) (u 138 (q + 5)) p4 r w)
theorem t_at (D : Nat) {T : Int → Int} {n p1 p2 p3 p4 k1 k2 q : Int} (h2 : p2 = tke T n p1) (h3 : p3 = tke T n p2) (h4 : p4 = tke T n p3) (hT : TX T n) {s u : Mem} (hu : Rs_ T n p1 u) (hn : NmU s u) (hq : 3972 ≤ q ∧ q + 5 < 4340) (ok0 : wOk T n p1 6) (hk1 : k1 = ixa (s 38) (nmT T n p2) 11 (s 37 4)) (hk2 : k2 = ixa (s 38) (nmT T n p3) 0 (s 37 1)) : CV (D + 6) 267 [137, q] u (TaP T n p2 p3 p4 k1 k2 q u) := by
  have b := hn.2.1
  have qw := r_words (D + 3) hT hu
  rw [if_pos ok0.1, ok0.2, ← pm_6] at qw
  obtain ⟨v, hv⟩ : ∃ v, v = mset u 138 q 1509 := ⟨_, rfl⟩
  have vf : ∀ c i, ¬ (c = 138 ∧ i = q) → v c i = u c i := fun c i h => by rw [hv, mset_ne (by omega)]
  have vr : Rs_ T n p1 v := Rs_w (fun i _ => vf _ _ (by omega)) (fun i => vf _ _ (by omega)) hu
  have v0 : v 138 q = 1509 := by rw [hv, mset_eq rfl rfl]
  apply c_R_test
  simp (disch := first | assumption | omega) only [rn, wk, al, wr_e, td_e, tm_e, mset_eq, mset_ne, if_pos, if_neg, Int.reduceAdd, Int.reduceSub, Int.reduceMul, Int.reduceNeg, Int.reduceLT, Int.reduceLE, Int.reduceEq, Int.cast_ofNat_Int, eq_self, and_true, true_and, ite_self, true_or, or_true, false_or, or_false, and_false, false_and, not_true_eq_false, not_false_eq_true, if_true, if_false, e_R_test_0, e_R_test_25, e_R_test_70, e_R_test_71, e_R_test_72, e_R_test_109, e_R_test_144, e_R_test_177, e_R_test_179, qw, ← hv]
  refine EV_call (CV_mono (r_ahd (D + 3) hT vr) ?_)
  rintro r0 x ⟨a, xr⟩
  rw [← h2] at xr
  have xf : ∀ c i, ¬ (c = 137 ∧ 12 ≤ i ∧ i ≤ 15) → ¬ (c = 138 ∧ i = q) → x c i = u c i := fun c i z1 z2 => by rw [a c i z1]; exact vf c i z2
  have x0 : x 138 q = 1509 := by rw [a _ _ (by omega)]; exact v0
  have x1 := (NmU_x hn (fun i => xf 139 i (by omega) (by omega)) (nmT T n p2)).2.2
  rw [← hk1] at x1
  refine EV_call (CV_mono (rr_caller D hT xr (s 37 4) (q + 1) k1 b.2.2 (by rw [xf _ _ (by omega) (by omega)]; exact hn.1.2.2) (by omega) x1) ?_)
  rintro r y (⟨e, ok1, f1, v1, r1⟩ | ⟨e, nok, f1, g8, g9⟩)
  · subst e
    rw [← h3] at r1
    have yf : ∀ c i, ¬ (c = 137 ∧ 12 ≤ i ∧ i ≤ 15) → ¬ (c = 138 ∧ (i = q ∨ i = q + 1)) → y c i = u c i := fun c i z1 z2 => by rw [f1 c i z1 (by omega)]; exact xf c i z1 (by omega)
    have x2 := (NmU_x hn (fun i => yf 139 i (by omega) (by omega)) (nmT T n p3)).1
    rw [← hk2] at x2
    simp (disch := first | assumption | omega) only [rn, wk, al, wr_e, td_e, tm_e, mset_eq, mset_ne, if_pos, if_neg, Int.reduceAdd, Int.reduceSub, Int.reduceMul, Int.reduceNeg, Int.reduceLT, Int.reduceLE, Int.reduceEq, Int.cast_ofNat_Int, eq_self, and_true, true_and, ite_self, true_or, or_true, false_or, or_false, and_false, false_and, not_true_eq_false, not_false_eq_true, if_true, if_false, e_R_test_0, e_R_test_25, e_R_test_70, e_R_test_71, e_R_test_72, e_R_test_109, e_R_test_144, e_R_test_177, e_R_test_179]
    refine EV_call (CV_mono (rr_place D hT r1 (s 37 1) (q + 2) k2 b.1 (by rw [yf _ _ (by omega) (by omega)]; exact hn.1.1) (by omega) x2) ?_)
    rintro r z (⟨e, ok2, f2, v2, r2⟩ | ⟨e, nok, f2, g8, g9⟩)
    · subst e
      rw [← h4] at r2
      have hq : TFin T n u q 1509 k1 k2 (u 138 (q + 3)) (u 138 (q + 5)) p4 1 z := ⟨rfl, fun c i z1 z2 => by rw [f2 c i z1 (by omega)]; exact yf c i z1 (by omega), by rw [f2 _ _ (by omega) (by omega), f1 _ _ (by omega) (by omega)]; exact x0, by rw [f2 _ _ (by omega) (by omega)]; exact v1, v2, by rw [f2 _ _ (by omega) (by omega)]; exact yf _ _ (by omega) (by omega), by rw [f2 _ _ (by omega) (by omega)]; exact yf _ _ (by omega) (by omega), r2⟩
      have hp : TaP T n p2 p3 p4 k1 k2 q u 1 z := by
        refine ⟨?_, ?_, ?_⟩ <;> (intros; first | contradiction | exact hq)
      simp (disch := first | assumption | omega) only [rn, wk, al, wr_e, td_e, tm_e, mset_eq, mset_ne, if_pos, if_neg, Int.reduceAdd, Int.reduceSub, Int.reduceMul, Int.reduceNeg, Int.reduceLT, Int.reduceLE, Int.reduceEq, Int.cast_ofNat_Int, eq_self, and_true, true_and, ite_self, true_or, or_true, false_or, or_false, and_false, false_and, not_true_eq_false, not_false_eq_true, if_true, if_false, e_R_test_0, e_R_test_25, e_R_test_70, e_R_test_71, e_R_test_72, e_R_test_109, e_R_test_144, e_R_test_177, e_R_test_179]
      exact hp
    · subst e
      have hq : NoR u (flt T n p3 (nmF T n p3)) (tkq T n p3) 0 z := ⟨rfl, fun c i z1 z2 z3 => by rw [f2 c i (by omega) (by omega)]; exact yf c i (by omega) (by omega), g8, g9⟩
      have hp : TaP T n p2 p3 p4 k1 k2 q u 0 z := by
        refine ⟨?_, ?_, ?_⟩ <;> (intros; first | contradiction | exact hq)
      simp (disch := first | assumption | omega) only [rn, wk, al, wr_e, td_e, tm_e, mset_eq, mset_ne, if_pos, if_neg, Int.reduceAdd, Int.reduceSub, Int.reduceMul, Int.reduceNeg, Int.reduceLT, Int.reduceLE, Int.reduceEq, Int.cast_ofNat_Int, eq_self, and_true, true_and, ite_self, true_or, or_true, false_or, or_false, and_false, false_and, not_true_eq_false, not_false_eq_true, if_true, if_false, e_R_test_0, e_R_test_25, e_R_test_70, e_R_test_71, e_R_test_72, e_R_test_109, e_R_test_144, e_R_test_177, e_R_test_179]
      exact hp
  · subst e
    have hq : NoR u (flt T n p2 (nmF T n p2)) (tkq T n p2) 0 y := ⟨rfl, fun c i z1 z2 z3 => by rw [f1 c i (by omega) (by omega)]; exact xf c i (by omega) (by omega), g8, g9⟩
    have hp : TaP T n p2 p3 p4 k1 k2 q u 0 y := by
      refine ⟨?_, ?_, ?_⟩ <;> (intros; first | contradiction | exact hq)
    simp (disch := first | assumption | omega) only [rn, wk, al, wr_e, td_e, tm_e, mset_eq, mset_ne, if_pos, if_neg, Int.reduceAdd, Int.reduceSub, Int.reduceMul, Int.reduceNeg, Int.reduceLT, Int.reduceLE, Int.reduceEq, Int.cast_ofNat_Int, eq_self, and_true, true_and, ite_self, true_or, or_true, false_or, or_false, and_false, false_and, not_true_eq_false, not_false_eq_true, if_true, if_false, e_R_test_0, e_R_test_25, e_R_test_70, e_R_test_71, e_R_test_72, e_R_test_109, e_R_test_144, e_R_test_177, e_R_test_179]
    exact hp
theorem pm_17 : pm 17 = 20 := rfl
theorem pm_16 : pm 16 = 19 := rfl
def TcP (T : Int → Int) (n p2 p3 p4 q : Int) (u : Mem) (r : Int) (w : Mem) : Prop := (¬ gOk T n p2 → NoR u (flt T n p2 2) (tkq T n p2) r w) ∧ (gOk T n p2 → ¬ nOk T n p3 0 8 → NoR u (flt T n p3 (nF T n p3)) (tkq T n p3) r w) ∧ (gOk T n p2 → nOk T n p3 0 8 → TFin T n u q 1520 (u 138 (q + 1)) (dvT T n p3) (u 138 (q + 3)) (T (tkq T n p2)) p4 r w)
theorem t_calls (D : Nat) {T : Int → Int} {n p1 p2 p3 p4 q : Int} (h2 : p2 = tke T n p1) (h3 : p3 = tke T n p2) (h4 : p4 = tke T n p3) (hT : TX T n) {s u : Mem} (hu : Rs_ T n p1 u) (hn : NmU s u) (hq : 3972 ≤ q ∧ q + 5 < 4340) (ok0 : wOk T n p1 17) : CV (D + 6) 267 [137, q] u (TcP T n p2 p3 p4 q u) := by
  have b := hn.2.1
  have qw := r_words (D + 3) hT hu
  rw [if_pos ok0.1, ok0.2, pm_17] at qw
  obtain ⟨v, hv⟩ : ∃ v, v = mset u 138 q 1520 := ⟨_, rfl⟩
  have vf : ∀ c i, ¬ (c = 138 ∧ i = q) → v c i = u c i := fun c i h => by rw [hv, mset_ne (by omega)]
  have vr : Rs_ T n p1 v := Rs_w (fun i _ => vf _ _ (by omega)) (fun i => vf _ _ (by omega)) hu
  have v0 : v 138 q = 1520 := by rw [hv, mset_eq rfl rfl]
  apply c_R_test
  simp (disch := first | assumption | omega) only [rn, wk, al, wr_e, td_e, tm_e, mset_eq, mset_ne, if_pos, if_neg, Int.reduceAdd, Int.reduceSub, Int.reduceMul, Int.reduceNeg, Int.reduceLT, Int.reduceLE, Int.reduceEq, Int.cast_ofNat_Int, eq_self, and_true, true_and, ite_self, true_or, or_true, false_or, or_false, and_false, false_and, not_true_eq_false, not_false_eq_true, if_true, if_false, e_R_test_0, e_R_test_25, e_R_test_70, e_R_test_71, e_R_test_72, e_R_test_109, e_R_test_144, e_R_test_177, e_R_test_179, qw, ← hv]
  refine EV_call (CV_mono (r_ahd (D + 3) hT vr) ?_)
  rintro r0 x ⟨a, xr⟩
  rw [← h2] at xr
  have xf : ∀ c i, ¬ (c = 137 ∧ 12 ≤ i ∧ i ≤ 15) → ¬ (c = 138 ∧ i = q) → x c i = u c i := fun c i z1 z2 => by rw [a c i z1]; exact vf c i z2
  have x0 : x 138 q = 1520 := by rw [a _ _ (by omega)]; exact v0
  have hz := t_111 D h3 h4 hT xr q 20 hq 8 (Or.inr ⟨rfl, rfl⟩) (TcP T n p2 p3 p4 q u) (fun nok y hy => by
    have hq : NoR u (flt T n p2 2) (tkq T n p2) 0 y := NoR_u (fun c i z1 z2 z3 => xf c i (by omega) (by omega)) hy
    refine ⟨?_, ?_, ?_⟩ <;> (intros; first | contradiction | exact hq)) (fun ok nok y hy => by
    have hq : NoR u (flt T n p3 (nF T n p3)) (tkq T n p3) 0 y := NoR_u (fun c i z1 z2 z3 => xf c i (by omega) (by omega)) hy
    refine ⟨?_, ?_, ?_⟩ <;> (intros; first | contradiction | exact hq)) (fun ok ok3 y yf y5 y2 yr => by
    have hq : TFin T n u q 1520 (u 138 (q + 1)) (dvT T n p3) (u 138 (q + 3)) (T (tkq T n p2)) p4 1 y := ⟨rfl, fun c i z1 z2 => by rw [yf c i z1 (by omega)]; exact xf c i z1 (by omega), by rw [yf _ _ (by omega) (by omega)]; exact x0, by rw [yf _ _ (by omega) (by omega)]; exact xf _ _ (by omega) (by omega), y2, by rw [yf _ _ (by omega) (by omega)]; exact xf _ _ (by omega) (by omega), y5, yr⟩
    refine ⟨?_, ?_, ?_⟩ <;> (intros; first | contradiction | exact hq))
  simp (disch := first | assumption | omega) only [rn, wk, al, wr_e, td_e, tm_e, mset_eq, mset_ne, if_pos, if_neg, Int.reduceAdd, Int.reduceSub, Int.reduceMul, Int.reduceNeg, Int.reduceLT, Int.reduceLE, Int.reduceEq, Int.cast_ofNat_Int, eq_self, and_true, true_and, ite_self, true_or, or_true, false_or, or_false, and_false, false_and, not_true_eq_false, not_false_eq_true, if_true, if_false, e_R_test_0, e_R_test_25, e_R_test_70, e_R_test_71, e_R_test_72, e_R_test_109, e_R_test_144, e_R_test_177, e_R_test_179]
  exact hz
def ThdP (T : Int → Int) (n p2 p3 p4 p5 p6 k1 q : Int) (u : Mem) (r : Int) (w : Mem) : Prop := (¬ nmOk T n p2 k1 → NoR u (flt T n p2 (nmF T n p2)) (tkq T n p2) r w) ∧ (nmOk T n p2 k1 → ¬ nOk T n p3 0 90 → NoR u (flt T n p3 (nF T n p3)) (tkq T n p3) r w) ∧ (nmOk T n p2 k1 → nOk T n p3 0 90 → ¬ gOk T n p4 → NoR u (flt T n p4 2) (tkq T n p4) r w) ∧ (nmOk T n p2 k1 → nOk T n p3 0 90 → gOk T n p4 → ¬ nOk T n p5 0 999 → NoR u (flt T n p5 (nF T n p5)) (tkq T n p5) r w) ∧ (nmOk T n p2 k1 → nOk T n p3 0 90 → gOk T n p4 → nOk T n p5 0 999 → TFin T n u q 1519 k1 (dvT T n p5) (dvT T n p3) (T (tkq T n p4)) p6 r w)
theorem t_heard (D : Nat) {T : Int → Int} {n p1 p2 p3 p4 p5 p6 k1 q : Int} (h2 : p2 = tke T n p1) (h3 : p3 = tke T n p2) (h4 : p4 = tke T n p3) (h5 : p5 = tke T n p4) (h6 : p6 = tke T n p5) (hT : TX T n) {s u : Mem} (hu : Rs_ T n p1 u) (hn : NmU s u) (hq : 3972 ≤ q ∧ q + 5 < 4340) (ok0 : wOk T n p1 16) (hk1 : k1 = ixa (s 38) (nmT T n p2) 7 (s 37 3)) : CV (D + 6) 267 [137, q] u (ThdP T n p2 p3 p4 p5 p6 k1 q u) := by
  have b := hn.2.1
  have qw := r_words (D + 3) hT hu
  rw [if_pos ok0.1, ok0.2, pm_16] at qw
  obtain ⟨v, hv⟩ : ∃ v, v = mset u 138 q 1519 := ⟨_, rfl⟩
  have vf : ∀ c i, ¬ (c = 138 ∧ i = q) → v c i = u c i := fun c i h => by rw [hv, mset_ne (by omega)]
  have vr : Rs_ T n p1 v := Rs_w (fun i _ => vf _ _ (by omega)) (fun i => vf _ _ (by omega)) hu
  have v0 : v 138 q = 1519 := by rw [hv, mset_eq rfl rfl]
  apply c_R_test
  simp (disch := first | assumption | omega) only [rn, wk, al, wr_e, td_e, tm_e, mset_eq, mset_ne, if_pos, if_neg, Int.reduceAdd, Int.reduceSub, Int.reduceMul, Int.reduceNeg, Int.reduceLT, Int.reduceLE, Int.reduceEq, Int.cast_ofNat_Int, eq_self, and_true, true_and, ite_self, true_or, or_true, false_or, or_false, and_false, false_and, not_true_eq_false, not_false_eq_true, if_true, if_false, e_R_test_0, e_R_test_25, e_R_test_70, e_R_test_71, e_R_test_72, e_R_test_109, e_R_test_144, e_R_test_177, e_R_test_179, qw, ← hv]
  refine EV_call (CV_mono (r_ahd (D + 3) hT vr) ?_)
  rintro r0 x ⟨a, xr⟩
  rw [← h2] at xr
  have xf : ∀ c i, ¬ (c = 137 ∧ 12 ≤ i ∧ i ≤ 15) → ¬ (c = 138 ∧ i = q) → x c i = u c i := fun c i z1 z2 => by rw [a c i z1]; exact vf c i z2
  have x0 : x 138 q = 1519 := by rw [a _ _ (by omega)]; exact v0
  have x1 := (NmU_x hn (fun i => xf 139 i (by omega) (by omega)) (nmT T n p2)).2.1
  rw [← hk1] at x1
  have x2 : x 138 2 = s 37 3 := by rw [xf _ _ (by omega) (by omega)]; exact hn.1.2.1
  simp (disch := first | assumption | omega) only [rn, wk, al, wr_e, td_e, tm_e, mset_eq, mset_ne, if_pos, if_neg, Int.reduceAdd, Int.reduceSub, Int.reduceMul, Int.reduceNeg, Int.reduceLT, Int.reduceLE, Int.reduceEq, Int.cast_ofNat_Int, eq_self, and_true, true_and, ite_self, true_or, or_true, false_or, or_false, and_false, false_and, not_true_eq_false, not_false_eq_true, if_true, if_false, e_R_test_0, e_R_test_25, e_R_test_70, e_R_test_71, e_R_test_72, e_R_test_109, e_R_test_144, e_R_test_177, e_R_test_179, x2]
  refine EV_call (CV_mono (rr_old (D + 1) hT xr 7 (s 37 3) (q + 1) k1 (by omega) (by omega) (by omega) (by omega) x1) ?_)
  rintro r y (⟨e, ok1, f1, v1, r1⟩ | ⟨e, nok, f1, g8, g9⟩)
  · subst e
    rw [← h3] at r1
    have yf : ∀ c i, ¬ (c = 137 ∧ 12 ≤ i ∧ i ≤ 15) → ¬ (c = 138 ∧ (i = q ∨ i = q + 1)) → y c i = u c i := fun c i z1 z2 => by rw [f1 c i z1 (by omega)]; exact xf c i z1 (by omega)
    simp (disch := first | assumption | omega) only [rn, wk, al, wr_e, td_e, tm_e, mset_eq, mset_ne, if_pos, if_neg, Int.reduceAdd, Int.reduceSub, Int.reduceMul, Int.reduceNeg, Int.reduceLT, Int.reduceLE, Int.reduceEq, Int.cast_ofNat_Int, eq_self, and_true, true_and, ite_self, true_or, or_true, false_or, or_false, and_false, false_and, not_true_eq_false, not_false_eq_true, if_true, if_false, e_R_test_0, e_R_test_25, e_R_test_70, e_R_test_71, e_R_test_72, e_R_test_109, e_R_test_144, e_R_test_177, e_R_test_179]
    refine EV_call (CV_mono (rr_number (D + 2) hT r1 (q + 3) 0 90 (by omega)) ?_)
    rintro r z (⟨e, ok2, f2, v2, r2⟩ | ⟨e, nok, f2, g8, g9⟩)
    · subst e
      rw [← h4] at r2
      have zf_ : ∀ c i, ¬ (c = 137 ∧ 12 ≤ i ∧ i ≤ 15) → ¬ (c = 138 ∧ (i = q ∨ i = q + 1 ∨ i = q + 3)) → z c i = u c i := fun c i z1 z2 => by rw [f2 c i z1 (by omega)]; exact yf c i z1 (by omega)
      have hz := t_111 D h5 h6 hT r2 q 19 hq 999 (Or.inl ⟨rfl, rfl⟩) (ThdP T n p2 p3 p4 p5 p6 k1 q u) (fun nok y hy => by
        have hq : NoR u (flt T n p4 2) (tkq T n p4) 0 y := NoR_u (fun c i z1 z2 z3 => zf_ c i (by omega) (by omega)) hy
        refine ⟨?_, ?_, ?_, ?_, ?_⟩ <;> (intros; first | contradiction | exact hq)) (fun ok nok y hy => by
        have hq : NoR u (flt T n p5 (nF T n p5)) (tkq T n p5) 0 y := NoR_u (fun c i z1 z2 z3 => zf_ c i (by omega) (by omega)) hy
        refine ⟨?_, ?_, ?_, ?_, ?_⟩ <;> (intros; first | contradiction | exact hq)) (fun ok ok3 w wf w5 w2 wr => by
        have hq : TFin T n u q 1519 k1 (dvT T n p5) (dvT T n p3) (T (tkq T n p4)) p6 1 w := ⟨rfl, fun c i z1 z2 => by rw [wf c i z1 (by omega)]; exact zf_ c i z1 (by omega), by rw [wf _ _ (by omega) (by omega), f2 _ _ (by omega) (by omega), f1 _ _ (by omega) (by omega)]; exact x0, by rw [wf _ _ (by omega) (by omega), f2 _ _ (by omega) (by omega)]; exact v1, w2, by rw [wf _ _ (by omega) (by omega)]; exact v2, w5, wr⟩
        refine ⟨?_, ?_, ?_, ?_, ?_⟩ <;> (intros; first | contradiction | exact hq))
      simp (disch := first | assumption | omega) only [rn, wk, al, wr_e, td_e, tm_e, mset_eq, mset_ne, if_pos, if_neg, Int.reduceAdd, Int.reduceSub, Int.reduceMul, Int.reduceNeg, Int.reduceLT, Int.reduceLE, Int.reduceEq, Int.cast_ofNat_Int, eq_self, and_true, true_and, ite_self, true_or, or_true, false_or, or_false, and_false, false_and, not_true_eq_false, not_false_eq_true, if_true, if_false, e_R_test_0, e_R_test_25, e_R_test_70, e_R_test_71, e_R_test_72, e_R_test_109, e_R_test_144, e_R_test_177, e_R_test_179]
      exact hz
    · subst e
      have hq : NoR u (flt T n p3 (nF T n p3)) (tkq T n p3) 0 z := ⟨rfl, fun c i z1 z2 z3 => by rw [f2 c i (by omega) (by omega)]; exact yf c i (by omega) (by omega), g8, g9⟩
      have hp : ThdP T n p2 p3 p4 p5 p6 k1 q u 0 z := by
        refine ⟨?_, ?_, ?_, ?_, ?_⟩ <;> (intros; first | contradiction | exact hq)
      simp (disch := first | assumption | omega) only [rn, wk, al, wr_e, td_e, tm_e, mset_eq, mset_ne, if_pos, if_neg, Int.reduceAdd, Int.reduceSub, Int.reduceMul, Int.reduceNeg, Int.reduceLT, Int.reduceLE, Int.reduceEq, Int.cast_ofNat_Int, eq_self, and_true, true_and, ite_self, true_or, or_true, false_or, or_false, and_false, false_and, not_true_eq_false, not_false_eq_true, if_true, if_false, e_R_test_0, e_R_test_25, e_R_test_70, e_R_test_71, e_R_test_72, e_R_test_109, e_R_test_144, e_R_test_177, e_R_test_179]
      exact hp
  · subst e
    have hq : NoR u (flt T n p2 (nmF T n p2)) (tkq T n p2) 0 y := ⟨rfl, fun c i z1 z2 z3 => by rw [f1 c i (by omega) (by omega)]; exact xf c i (by omega) (by omega), g8, g9⟩
    have hp : ThdP T n p2 p3 p4 p5 p6 k1 q u 0 y := by
      refine ⟨?_, ?_, ?_, ?_, ?_⟩ <;> (intros; first | contradiction | exact hq)
    simp (disch := first | assumption | omega) only [rn, wk, al, wr_e, td_e, tm_e, mset_eq, mset_ne, if_pos, if_neg, Int.reduceAdd, Int.reduceSub, Int.reduceMul, Int.reduceNeg, Int.reduceLT, Int.reduceLE, Int.reduceEq, Int.cast_ofNat_Int, eq_self, and_true, true_and, ite_self, true_or, or_true, false_or, or_false, and_false, false_and, not_true_eq_false, not_false_eq_true, if_true, if_false, e_R_test_0, e_R_test_25, e_R_test_70, e_R_test_71, e_R_test_72, e_R_test_109, e_R_test_144, e_R_test_177, e_R_test_179]
    exact hp
theorem pm_hi {w : Int} (hw : 0 ≤ w ∧ w ≤ 20) (h1 : w ≠ 6) (h2 : w ≠ 16) (h3 : w ≠ 17) : pm w ≠ 9 ∧ pm w < 19 := by
  obtain rfl | rfl | rfl | rfl | rfl | rfl | rfl | rfl | rfl | rfl | rfl | rfl | rfl | rfl | rfl | rfl | rfl | rfl : w = 0 ∨ w = 1 ∨ w = 2 ∨ w = 3 ∨ w = 4 ∨ w = 5 ∨ w = 7 ∨ w = 8 ∨ w = 9 ∨ w = 10 ∨ w = 11 ∨ w = 12 ∨ w = 13 ∨ w = 14 ∨ w = 15 ∨ w = 18 ∨ w = 19 ∨ w = 20 := by omega
  all_goals decide
theorem t_bad (D : Nat) {T : Int → Int} {n p1 : Int} (hT : TX T n) {u : Mem} (hu : Rs_ T n p1 u) (q : Int) (nok : ¬ (tkk T n p1 = 1 ∧ (wnT T n p1 = 6 ∨ wnT T n p1 = 16 ∨ wnT T n p1 = 17))) : CV (D + 6) 267 [137, q] u (NoR u (flt T n p1 2) (tkq T n p1)) := by
  have wb := wnT_b (T := T) (n := n) (p := p1)
  have qw := r_words (D + 3) hT hu
  have qf := q_Rfails (D + 4) u 2 hu
  have hq : NoR u (flt T n p1 2) (tkq T n p1) 0 (mset (mset u 137 18 (flt T n p1 2)) 137 17 (tkq T n p1)) := NoR_f (fun _ _ _ _ _ => rfl)
  obtain ⟨k, hk, qk⟩ : ∃ k, (k ≠ 9 ∧ k < 19) ∧ sem (D + 5) 235 [137, 0] u = some (k, u) := by
    refine ⟨_, ?_, qw⟩
    by_cases e1 : tkk T n p1 = 1
    · rw [if_pos e1]
      by_cases e2 : wnT T n p1 = -1
      · rw [e2]; decide
      · exact pm_hi (by omega) (fun h => nok ⟨e1, Or.inl h⟩) (fun h => nok ⟨e1, Or.inr (Or.inl h)⟩) (fun h => nok ⟨e1, Or.inr (Or.inr h)⟩)
    · rw [if_neg e1]; omega
  clear qw
  apply c_R_test
  simp (disch := first | assumption | omega) only [rn, wk, al, wr_e, td_e, tm_e, mset_eq, mset_ne, if_pos, if_neg, Int.reduceAdd, Int.reduceSub, Int.reduceMul, Int.reduceNeg, Int.reduceLT, Int.reduceLE, Int.reduceEq, Int.cast_ofNat_Int, eq_self, and_true, true_and, ite_self, true_or, or_true, false_or, or_false, and_false, false_and, not_true_eq_false, not_false_eq_true, if_true, if_false, e_R_test_0, e_R_test_25, e_R_test_70, e_R_test_71, e_R_test_72, e_R_test_109, e_R_test_111, e_R_test_144, e_R_test_177, e_R_test_179, qk, qf]
  exact hq
