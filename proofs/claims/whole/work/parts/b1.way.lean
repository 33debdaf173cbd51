/-! ===== H2: hall, ways of both readers ===== -/
def ThP (T : Int → Int) (n p w : Int) (u : Mem) (r : Int) (v : Mem) : Prop := (r = 1 ∧ wOk T n p w ∧ Fra u v ∧ Rs_ T n (tke T n p) v) ∨ (r = 0 ∧ ¬ wOk T n p w ∧ v = u)
theorem r_isThere (d : Nat) {T : Int → Int} {n p : Int} (hT : TX T n) {u : Mem} (hu : Rs_ T n p u) (w k : Int) (hw : 0 ≤ w ∧ w ≤ 20) (hk : k = pm w) : CV (d + 3) 250 [137, k] u (ThP T n p w u) := by
  have qw := r_words d hT hu
  have pi := pm_inj (wnT_b (T := T) (n := n) (p := p)) hw
  have pb := pm_b (x := w) (by omega)
  rw [← hk] at pi pb
  apply c_R_isThere
  by_cases e1 : tkk T n p = 1
  · rw [if_pos e1] at qw
    by_cases e2 : wnT T n p = w
    · have e3 := pi.2 e2
      rw [e3] at qw
      have ok : wOk T n p w := ⟨e1, e2⟩
      simp (disch := first | assumption | omega) only [rn, wk, al, wr_e, td_e, tm_e, mset_eq, mset_ne, if_pos, if_neg, Int.reduceAdd, Int.reduceSub, Int.reduceMul, Int.reduceNeg, Int.reduceLT, Int.reduceLE, Int.reduceEq, Int.cast_ofNat_Int, eq_self, and_true, true_and, ite_self, true_or, or_true, false_or, or_false, and_false, false_and, not_true_eq_false, not_false_eq_true, if_true, if_false, e_R_isThere_0, e_R_isThere_12, qw]
      refine EV_call (CV_mono (r_ahd d hT hu) ?_)
      rintro r v ⟨a, b⟩
      have hq : ThP T n p w u 1 v := Or.inl ⟨rfl, ok, a, b⟩
      simp (disch := first | assumption | omega) only [rn, wk, al, wr_e, td_e, tm_e, mset_eq, mset_ne, if_pos, if_neg, Int.reduceAdd, Int.reduceSub, Int.reduceMul, Int.reduceNeg, Int.reduceLT, Int.reduceLE, Int.reduceEq, Int.cast_ofNat_Int, eq_self, and_true, true_and, ite_self, true_or, or_true, false_or, or_false, and_false, false_and, not_true_eq_false, not_false_eq_true, if_true, if_false, e_R_isThere_0, e_R_isThere_12]
      exact hq
    · have e3 : pm (wnT T n p) ≠ k := fun h => e2 (pi.1 h)
      have nok : ¬ wOk T n p w := fun h => e2 h.2
      have hq : ThP T n p w u 0 u := Or.inr ⟨rfl, nok, rfl⟩
      simp (disch := first | assumption | omega) only [rn, wk, al, wr_e, td_e, tm_e, mset_eq, mset_ne, if_pos, if_neg, Int.reduceAdd, Int.reduceSub, Int.reduceMul, Int.reduceNeg, Int.reduceLT, Int.reduceLE, Int.reduceEq, Int.cast_ofNat_Int, eq_self, and_true, true_and, ite_self, true_or, or_true, false_or, or_false, and_false, false_and, not_true_eq_false, not_false_eq_true, if_true, if_false, e_R_isThere_0, e_R_isThere_12, qw, e3]
      exact hq
  · rw [if_neg e1] at qw
    have e3 : (-1 : Int) ≠ k := by omega
    have nok : ¬ wOk T n p w := fun h => e1 h.1
    have hq : ThP T n p w u 0 u := Or.inr ⟨rfl, nok, rfl⟩
    simp (disch := first | assumption | omega) only [rn, wk, al, wr_e, td_e, tm_e, mset_eq, mset_ne, if_pos, if_neg, Int.reduceAdd, Int.reduceSub, Int.reduceMul, Int.reduceNeg, Int.reduceLT, Int.reduceLE, Int.reduceEq, Int.cast_ofNat_Int, eq_self, and_true, true_and, ite_self, true_or, or_true, false_or, or_false, and_false, false_and, not_true_eq_false, not_false_eq_true, if_true, if_false, e_R_isThere_0, e_R_isThere_12, qw]
    exact hq
def WFin (T : Int → Int) (n : Int) (u : Mem) (c0 k1 k2 x y pe r : Int) (w : Mem) : Prop := r = 1 ∧ (∀ c i, ¬ (c = 137 ∧ 12 ≤ i ∧ i ≤ 15) → ¬ (c = 138 ∧ ((3482 + 4 * c0 ≤ i ∧ i ≤ 3485 + 4 * c0) ∨ i = 3473)) → w c i = u c i) ∧ w 138 (3482 + 4 * c0) = k1 ∧ w 138 (3483 + 4 * c0) = k2 ∧ w 138 (3484 + 4 * c0) = x ∧ w 138 (3485 + 4 * c0) = y ∧ w 138 3473 = c0 + 1 ∧ Rs_ T n pe w
/-- a way, in the reference -/
def WyP (T : Int → Int) (n p p1 p2 p3 p4 p5 p6 p7 k1 k2 c0 : Int) (u : Mem) (r : Int) (w : Mem) : Prop := (c0 = 10 → NoR u (flt T n p 6) (tkq T n p) r w) ∧ (c0 ≠ 10 → ¬ isNm T n p1 → NoR u (flt T n p1 2) (tkq T n p1) r w) ∧ (c0 ≠ 10 → isNm T n p1 → k1 = -1 → NoR u (flt T n p1 3) (tkq T n p1) r w) ∧ (c0 ≠ 10 → isNm T n p1 → k1 ≠ -1 → ¬ isNm T n p2 → NoR u (flt T n p2 2) (tkq T n p2) r w) ∧ (c0 ≠ 10 → isNm T n p1 → k1 ≠ -1 → isNm T n p2 → k2 = -1 → NoR u (flt T n p2 3) (tkq T n p2) r w) ∧ (c0 ≠ 10 → isNm T n p1 → k1 ≠ -1 → isNm T n p2 → k2 ≠ -1 → k1 = k2 → NoR u (flt T n p2 5) (tkq T n p2) r w) ∧ (c0 ≠ 10 → isNm T n p1 → k1 ≠ -1 → isNm T n p2 → k2 ≠ -1 → k1 ≠ k2 → ¬ wOk T n p3 3 → NoR u (flt T n p3 2) (tkq T n p3) r w) ∧ (c0 ≠ 10 → isNm T n p1 → k1 ≠ -1 → isNm T n p2 → k2 ≠ -1 → k1 ≠ k2 → wOk T n p3 3 → ¬ nOk T n p4 1 9 → NoR u (flt T n p4 (nF T n p4)) (tkq T n p4) r w) ∧ (c0 ≠ 10 → isNm T n p1 → k1 ≠ -1 → isNm T n p2 → k2 ≠ -1 → k1 ≠ k2 → wOk T n p3 3 → nOk T n p4 1 9 → ¬ wOk T n p5 4 → WFin T n u c0 k1 k2 (dvT T n p4) 0 p5 r w) ∧ (c0 ≠ 10 → isNm T n p1 → k1 ≠ -1 → isNm T n p2 → k2 ≠ -1 → k1 ≠ k2 → wOk T n p3 3 → nOk T n p4 1 9 → wOk T n p5 4 → ¬ nOk T n p6 0 9 → NoR u (flt T n p6 (nF T n p6)) (tkq T n p6) r w) ∧ (c0 ≠ 10 → isNm T n p1 → k1 ≠ -1 → isNm T n p2 → k2 ≠ -1 → k1 ≠ k2 → wOk T n p3 3 → nOk T n p4 1 9 → wOk T n p5 4 → nOk T n p6 0 9 → WFin T n u c0 k1 k2 (dvT T n p4) (dvT T n p6) p7 r w)
theorem pm_3 : (7 : Int) = pm 3 := rfl
theorem pm_4 : (8 : Int) = pm 4 := rfl
theorem FrH_1 {u v : Mem} (h : ∀ c i, ¬ (c = 137 ∧ 12 ≤ i ∧ i ≤ 15) → ¬ (c = 138 ∧ 3472 ≤ i ∧ i < 4340) → v c i = u c i) : FrH u v := fun c i a b _ => h c i (by omega) b
theorem r_way (D : Nat) {T : Int → Int} {n p p1 p2 p3 p4 p5 p6 p7 : Int} (h1 : p1 = tke T n p) (h2 : p2 = tke T n p1) (h3 : p3 = tke T n p2) (h4 : p4 = tke T n p3) (h5 : p5 = tke T n p4) (h6 : p6 = tke T n p5) (h7 : p7 = tke T n p6) (hT : TX T n) {s u0 u : Mem} (hu : RlH T n s u0 u p) : CV (D + 7) 245 [137] u (WyP T n p p1 p2 p3 p4 p5 p6 p7 (ixa (s 58) (nmT T n p1) 0 (s 57 1)) (ixa (s 58) (nmT T n p2) 0 (s 57 1)) (s 57 2) u) := by
  obtain ⟨hp, hr, -, -⟩ := hu
  obtain ⟨c0, m1, m2, m3, m4, m5, m0⟩ := HPu_c hp
  obtain ⟨nn, -⟩ := HPu_n hp 0
  have qi := q_isFull (D + 5) 1 10 u (by omega)
  have m2' : u 138 (3472 + 1) = s 57 2 := m2
  rw [m2'] at qi
  have ixc : ∀ (v : Mem) (nm : Int), (∀ i, v 139 i = u 139 i) → ixa (v 139) nm 64 (s 57 1) = ixa (s 58) nm 0 (s 57 1) := fun v nm h => by
    rw [← (HPu_n hp nm).1]
    exact ixa_congr (by omega) (fun i _ _ => h _)
  apply c_R_aWay
  by_cases c10 : s 57 2 = 10
  · rw [if_pos c10] at qi
    have q6 := q_Rfails (D + 5) u 6 hr
    have hq : NoR u (flt T n p 6) (tkq T n p) 0 (mset (mset u 137 18 (flt T n p 6)) 137 17 (tkq T n p)) := NoR_f (fun _ _ _ _ _ => rfl)
    have hp2 : WyP T n p p1 p2 p3 p4 p5 p6 p7 (ixa (s 58) (nmT T n p1) 0 (s 57 1)) (ixa (s 58) (nmT T n p2) 0 (s 57 1)) (s 57 2) u 0 (mset (mset u 137 18 (flt T n p 6)) 137 17 (tkq T n p)) := by
      refine ⟨?_, ?_, ?_, ?_, ?_, ?_, ?_, ?_, ?_, ?_, ?_⟩ <;> (intros; first | contradiction | exact hq)
    simp (disch := first | assumption | omega) only [rn, wk, al, wr_e, td_e, tm_e, mset_eq, mset_ne, if_pos, if_neg, Int.reduceAdd, Int.reduceSub, Int.reduceMul, Int.reduceNeg, Int.reduceLT, Int.reduceLE, Int.reduceEq, Int.cast_ofNat_Int, eq_self, and_true, true_and, ite_self, true_or, or_true, false_or, or_false, and_false, false_and, not_true_eq_false, not_false_eq_true, if_true, if_false, e_R_aWay_0, e_R_aWay_17, e_R_aWay_47, e_R_aWay_85, e_R_aWay_119, e_R_aWay_121, e_R_aWay_154, qi, q6]
    exact hp2
  · rw [if_neg c10] at qi
    have e0 : 3472 + (10 + 4 * s 57 2) = 3482 + 4 * s 57 2 := by omega
    have e1 : 3482 + 4 * s 57 2 + 1 = 3483 + 4 * s 57 2 := by omega
    have e2 : 3482 + 4 * s 57 2 + 2 = 3484 + 4 * s 57 2 := by omega
    have e3 : 3482 + 4 * s 57 2 + 3 = 3485 + 4 * s 57 2 := by omega
    simp (disch := first | assumption | omega) only [rn, wk, al, wr_e, td_e, tm_e, mset_eq, mset_ne, if_pos, if_neg, Int.reduceAdd, Int.reduceSub, Int.reduceMul, Int.reduceNeg, Int.reduceLT, Int.reduceLE, Int.reduceEq, Int.cast_ofNat_Int, eq_self, and_true, true_and, ite_self, true_or, or_true, false_or, or_false, and_false, false_and, not_true_eq_false, not_false_eq_true, if_true, if_false, e_R_aWay_0, e_R_aWay_17, e_R_aWay_47, e_R_aWay_85, e_R_aWay_119, e_R_aWay_121, e_R_aWay_154, qi, m2, q_wayRow, e0]
    refine EV_call (CV_mono (r_ahd (D + 4) hT hr) ?_)
    rintro r0 v ⟨a, b⟩
    rw [← h1] at b
    refine EV_call (CV_mono (r_newPlaceTo (D + 1) hT b (s := s) (by rw [a _ _ (by omega)]; exact m1) (by omega) (3482 + 4 * s 57 2) (by omega)) ?_)
    intro r x h
    unfold OkP at h
    rw [ixc v _ (fun i => a _ _ (by omega)), ← h2] at h
    rcases h with ⟨e, on1, ne1, xf, xv, xr⟩ | ⟨e, xf, x17, ⟨on, x18⟩ | ⟨on, en, x18⟩⟩
    · subst e
      have xu : ∀ c i, ¬ (c = 137 ∧ 12 ≤ i ∧ i ≤ 15) → ¬ (c = 138 ∧ i = 3482 + 4 * s 57 2) → x c i = u c i := fun c i y1 y2 => by rw [xf c i y1 y2, a c i y1]
      have xm : x 138 3472 = s 57 1 := by rw [xu _ _ (by omega) (by omega)]; exact m1
      have x139 : ∀ i, x 139 i = u 139 i := fun i => xu _ _ (by omega) (by omega)
      obtain ⟨bn, hbn, qn⟩ := r_isName (D + 3) hT xr
      -- behind the second name
      have rest : ∀ G : Int → Mem → Prop, (∀ y, isNm T n p2 → ixa (s 58) (nmT T n p2) 0 (s 57 1) ≠ -1 → (∀ c i, ¬ (c = 137 ∧ 12 ≤ i ∧ i ≤ 15) → ¬ (c = 138 ∧ (i = 3482 + 4 * s 57 2 ∨ i = 3483 + 4 * s 57 2)) → y c i = u c i) → y 138 (3482 + 4 * s 57 2) = ixa (s 58) (nmT T n p1) 0 (s 57 1) → y 138 (3483 + 4 * s 57 2) = ixa (s 58) (nmT T n p2) 0 (s 57 1) → Rs_ T n p3 y → G 1 y) → (∀ y, (¬ isNm T n p2 → NoR u (flt T n p2 2) (tkq T n p2) 0 y) → (isNm T n p2 → ixa (s 58) (nmT T n p2) 0 (s 57 1) = -1 → NoR u (flt T n p2 3) (tkq T n p2) 0 y) → (¬ isNm T n p2 ∨ ixa (s 58) (nmT T n p2) 0 (s 57 1) = -1) → G 0 y) → CV (D + 6) 247 [137, 3483 + 4 * s 57 2] x G := by
        intro G g1 g0
        refine CV_mono (r_newPlaceTo (D + 1) hT xr (s := s) xm (by omega) (3483 + 4 * s 57 2) (by omega)) ?_
        intro r y h
        unfold OkP at h
        rw [ixc x _ x139, ← h3] at h
        rcases h with ⟨e, on2, ne2, yf, yv, yr⟩ | ⟨e, yf, y17, ⟨on, y18⟩ | ⟨on, en, y18⟩⟩
        · subst e
          exact g1 y on2 ne2 (fun c i z1 z2 => by rw [yf c i z1 (by omega)]; exact xu c i z1 (by omega)) (by rw [yf _ _ (by omega) (by omega)]; exact xv) yv yr
        · subst e
          have hn : ∀ k, y 137 18 = k → NoR u k (tkq T n p2) 0 y := fun k hk => ⟨rfl, fun c i z1 z2 z3 => by rw [yf c i (by omega) (by omega)]; exact xu c i (by omega) (by omega), hk, y17⟩
          exact g0 y (fun _ => hn _ y18) (fun h => absurd h on) (Or.inl on)
        · subst e
          have hn : ∀ k, y 137 18 = k → NoR u k (tkq T n p2) 0 y := fun k hk => ⟨rfl, fun c i z1 z2 z3 => by rw [yf c i (by omega) (by omega)]; exact xu c i (by omega) (by omega), hk, y17⟩
          exact g0 y (fun h => absurd on h) (fun _ _ => hn _ y18) (Or.inr en)
      have tail : (isNm T n p2 → ixa (s 58) (nmT T n p2) 0 (s 57 1) ≠ -1 → ixa (s 58) (nmT T n p1) 0 (s 57 1) ≠ ixa (s 58) (nmT T n p2) 0 (s 57 1)) → EV (D + 6) o_R_aWay 85 [] [137, 3482 + 4 * s 57 2] x (WyP T n p p1 p2 p3 p4 p5 p6 p7 (ixa (s 58) (nmT T n p1) 0 (s 57 1)) (ixa (s 58) (nmT T n p2) 0 (s 57 1)) (s 57 2) u) := by
        intro hne
        rw [e_R_aWay_85]
        simp (disch := first | assumption | omega) only [rn, wk, al, wr_e, td_e, tm_e, mset_eq, mset_ne, if_pos, if_neg, Int.reduceAdd, Int.reduceSub, Int.reduceMul, Int.reduceNeg, Int.reduceLT, Int.reduceLE, Int.reduceEq, Int.cast_ofNat_Int, eq_self, and_true, true_and, ite_self, true_or, or_true, false_or, or_false, and_false, false_and, not_true_eq_false, not_false_eq_true, if_true, if_false, e1]
        refine EV_call (rest _ (fun y on2 ne2 yf yv1 yv2 yr => ?_) (fun y g2 g3 g4 => ?_))
        · have n12 := hne on2 ne2
          simp (disch := first | assumption | omega) only [rn, wk, al, wr_e, td_e, tm_e, mset_eq, mset_ne, if_pos, if_neg, Int.reduceAdd, Int.reduceSub, Int.reduceMul, Int.reduceNeg, Int.reduceLT, Int.reduceLE, Int.reduceEq, Int.cast_ofNat_Int, eq_self, and_true, true_and, ite_self, true_or, or_true, false_or, or_false, and_false, false_and, not_true_eq_false, not_false_eq_true, if_true, if_false, e_R_aWay_0, e_R_aWay_17, e_R_aWay_47, e_R_aWay_85, e_R_aWay_119, e_R_aWay_121, e_R_aWay_154]
          refine EV_call (CV_mono (r_wantWord (D + 3) hT yr 3 7 (by omega) pm_3) ?_)
          rintro r z (⟨e, ok3, zf, zr⟩ | ⟨e, nok, zf, z18, z17⟩)
          · subst e
            rw [← h4] at zr
            simp (disch := first | assumption | omega) only [rn, wk, al, wr_e, td_e, tm_e, mset_eq, mset_ne, if_pos, if_neg, Int.reduceAdd, Int.reduceSub, Int.reduceMul, Int.reduceNeg, Int.reduceLT, Int.reduceLE, Int.reduceEq, Int.cast_ofNat_Int, eq_self, and_true, true_and, ite_self, true_or, or_true, false_or, or_false, and_false, false_and, not_true_eq_false, not_false_eq_true, if_true, if_false, e_R_aWay_0, e_R_aWay_17, e_R_aWay_47, e_R_aWay_85, e_R_aWay_119, e_R_aWay_121, e_R_aWay_154, e2]
            refine EV_call (CV_mono (r_number (D + 3) hT zr (3484 + 4 * s 57 2) 1 9 (by omega)) ?_)
            rintro r z2 (⟨e, ok4, z2f, z2v, z2r⟩ | ⟨e, nok4, z2f, z218, z217⟩)
            · subst e
              rw [← h5] at z2r
              obtain ⟨z3, hz3⟩ : ∃ z3, z3 = mset z2 138 (3485 + 4 * s 57 2) 0 := ⟨_, rfl⟩
              have z3f : ∀ c i, ¬ (c = 138 ∧ i = 3485 + 4 * s 57 2) → z3 c i = z2 c i := fun c i y => by rw [hz3, mset_ne (by omega)]
              have z3r : Rs_ T n p5 z3 := Rs_w (fun i _ => z3f _ _ (by omega)) (fun i => z3f _ _ (by omega)) z2r
              have zu : ∀ c i, ¬ (c = 137 ∧ 12 ≤ i ∧ i ≤ 15) → ¬ (c = 138 ∧ 3482 + 4 * s 57 2 ≤ i ∧ i ≤ 3485 + 4 * s 57 2) → z3 c i = u c i := fun c i y1 y2 => by rw [z3f c i (by omega), z2f c i y1 (by omega), zf c i y1]; exact yf c i y1 (by omega)
              have v0 : z3 138 (3482 + 4 * s 57 2) = ixa (s 58) (nmT T n p1) 0 (s 57 1) := by rw [z3f _ _ (by omega), z2f _ _ (by omega) (by omega), zf _ _ (by omega)]; exact yv1
              have v1 : z3 138 (3483 + 4 * s 57 2) = ixa (s 58) (nmT T n p2) 0 (s 57 1) := by rw [z3f _ _ (by omega), z2f _ _ (by omega) (by omega), zf _ _ (by omega)]; exact yv2
              have v2 : z3 138 (3484 + 4 * s 57 2) = dvT T n p4 := by rw [z3f _ _ (by omega)]; exact z2v
              have v3 : z3 138 (3485 + 4 * s 57 2) = 0 := by rw [hz3, mset_eq rfl rfl]
              simp (disch := first | assumption | omega) only [rn, wk, al, wr_e, td_e, tm_e, mset_eq, mset_ne, if_pos, if_neg, Int.reduceAdd, Int.reduceSub, Int.reduceMul, Int.reduceNeg, Int.reduceLT, Int.reduceLE, Int.reduceEq, Int.cast_ofNat_Int, eq_self, and_true, true_and, ite_self, true_or, or_true, false_or, or_false, and_false, false_and, not_true_eq_false, not_false_eq_true, if_true, if_false, e_R_aWay_0, e_R_aWay_17, e_R_aWay_47, e_R_aWay_85, e_R_aWay_119, e_R_aWay_121, e_R_aWay_154, e3, ← hz3]
              refine EV_call (CV_mono (r_isThere (D + 3) hT z3r 4 8 (by omega) pm_4) ?_)
              rintro r z4 (⟨e, ok5, z4f, z4r⟩ | ⟨e, nok5, e4⟩)
              · subst e
                rw [← h6] at z4r
                simp (disch := first | assumption | omega) only [rn, wk, al, wr_e, td_e, tm_e, mset_eq, mset_ne, if_pos, if_neg, Int.reduceAdd, Int.reduceSub, Int.reduceMul, Int.reduceNeg, Int.reduceLT, Int.reduceLE, Int.reduceEq, Int.cast_ofNat_Int, eq_self, and_true, true_and, ite_self, true_or, or_true, false_or, or_false, and_false, false_and, not_true_eq_false, not_false_eq_true, if_true, if_false, e_R_aWay_0, e_R_aWay_17, e_R_aWay_47, e_R_aWay_85, e_R_aWay_119, e_R_aWay_121, e_R_aWay_154, e3]
                refine EV_call (CV_mono (r_number (D + 3) hT z4r (3485 + 4 * s 57 2) 0 9 (by omega)) ?_)
                rintro r z5 (⟨e, ok6, z5f, z5v, z5r⟩ | ⟨e, nok6, z5f, z518, z517⟩)
                · subst e
                  rw [← h7] at z5r
                  have zc : z5 138 3473 = s 57 2 := by rw [z5f _ _ (by omega) (by omega), z4f _ _ (by omega), zu _ _ (by omega) (by omega)]; exact m2
                  obtain ⟨z6, hz6⟩ : ∃ z6, z6 = mset z5 138 3473 (s 57 2 + 1) := ⟨_, rfl⟩
                  have z6f : ∀ c i, ¬ (c = 138 ∧ i = 3473) → z6 c i = z5 c i := fun c i y => by rw [hz6, mset_ne (by omega)]
                  have hq : WFin T n u (s 57 2) (ixa (s 58) (nmT T n p1) 0 (s 57 1)) (ixa (s 58) (nmT T n p2) 0 (s 57 1)) (dvT T n p4) (dvT T n p6) p7 1 z6 := by
                    refine ⟨rfl, fun c i y1 y2 => by rw [z6f c i (by omega), z5f c i y1 (by omega), z4f c i y1]; exact zu c i y1 (by omega), ?_, ?_, ?_, ?_, by rw [hz6, mset_eq rfl rfl], Rs_w (fun i _ => z6f _ _ (by omega)) (fun i => z6f _ _ (by omega)) z5r⟩
                    · rw [z6f _ _ (by omega), z5f _ _ (by omega) (by omega), z4f _ _ (by omega)]; exact v0
                    · rw [z6f _ _ (by omega), z5f _ _ (by omega) (by omega), z4f _ _ (by omega)]; exact v1
                    · rw [z6f _ _ (by omega), z5f _ _ (by omega) (by omega), z4f _ _ (by omega)]; exact v2
                    · rw [z6f _ _ (by omega)]; exact z5v
                  have hp2 : WyP T n p p1 p2 p3 p4 p5 p6 p7 (ixa (s 58) (nmT T n p1) 0 (s 57 1)) (ixa (s 58) (nmT T n p2) 0 (s 57 1)) (s 57 2) u 1 z6 := by
                    refine ⟨?_, ?_, ?_, ?_, ?_, ?_, ?_, ?_, ?_, ?_, ?_⟩ <;> (intros; first | contradiction | exact hq)
                  simp (disch := first | assumption | omega) only [rn, wk, al, wr_e, td_e, tm_e, mset_eq, mset_ne, if_pos, if_neg, Int.reduceAdd, Int.reduceSub, Int.reduceMul, Int.reduceNeg, Int.reduceLT, Int.reduceLE, Int.reduceEq, Int.cast_ofNat_Int, eq_self, and_true, true_and, ite_self, true_or, or_true, false_or, or_false, and_false, false_and, not_true_eq_false, not_false_eq_true, if_true, if_false, e_R_aWay_0, e_R_aWay_17, e_R_aWay_47, e_R_aWay_85, e_R_aWay_119, e_R_aWay_121, e_R_aWay_154, zc, ← hz6]
                  exact hp2
                · subst e
                  have hq : NoR u (flt T n p6 (nF T n p6)) (tkq T n p6) 0 z5 := ⟨rfl, fun c i y1 y2 y3 => by rw [z5f c i (by omega), z4f c i (by omega)]; exact zu c i (by omega) (by omega), z518, z517⟩
                  have hp2 : WyP T n p p1 p2 p3 p4 p5 p6 p7 (ixa (s 58) (nmT T n p1) 0 (s 57 1)) (ixa (s 58) (nmT T n p2) 0 (s 57 1)) (s 57 2) u 0 z5 := by
                    refine ⟨?_, ?_, ?_, ?_, ?_, ?_, ?_, ?_, ?_, ?_, ?_⟩ <;> (intros; first | contradiction | exact hq)
                  simp (disch := first | assumption | omega) only [rn, wk, al, wr_e, td_e, tm_e, mset_eq, mset_ne, if_pos, if_neg, Int.reduceAdd, Int.reduceSub, Int.reduceMul, Int.reduceNeg, Int.reduceLT, Int.reduceLE, Int.reduceEq, Int.cast_ofNat_Int, eq_self, and_true, true_and, ite_self, true_or, or_true, false_or, or_false, and_false, false_and, not_true_eq_false, not_false_eq_true, if_true, if_false, e_R_aWay_0, e_R_aWay_17, e_R_aWay_47, e_R_aWay_85, e_R_aWay_119, e_R_aWay_121, e_R_aWay_154]
                  exact hp2
              · subst e e4
                have zc : z4 138 3473 = s 57 2 := by rw [zu _ _ (by omega) (by omega)]; exact m2
                obtain ⟨z6, hz6⟩ : ∃ z6, z6 = mset z4 138 3473 (s 57 2 + 1) := ⟨_, rfl⟩
                have z6f : ∀ c i, ¬ (c = 138 ∧ i = 3473) → z6 c i = z4 c i := fun c i y => by rw [hz6, mset_ne (by omega)]
                have hq : WFin T n u (s 57 2) (ixa (s 58) (nmT T n p1) 0 (s 57 1)) (ixa (s 58) (nmT T n p2) 0 (s 57 1)) (dvT T n p4) 0 p5 1 z6 := by
                  refine ⟨rfl, fun c i y1 y2 => by rw [z6f c i (by omega)]; exact zu c i y1 (by omega), ?_, ?_, ?_, ?_, by rw [hz6, mset_eq rfl rfl], Rs_w (fun i _ => z6f _ _ (by omega)) (fun i => z6f _ _ (by omega)) z3r⟩
                  · rw [z6f _ _ (by omega)]; exact v0
                  · rw [z6f _ _ (by omega)]; exact v1
                  · rw [z6f _ _ (by omega)]; exact v2
                  · rw [z6f _ _ (by omega)]; exact v3
                have hp2 : WyP T n p p1 p2 p3 p4 p5 p6 p7 (ixa (s 58) (nmT T n p1) 0 (s 57 1)) (ixa (s 58) (nmT T n p2) 0 (s 57 1)) (s 57 2) u 1 z6 := by
                  refine ⟨?_, ?_, ?_, ?_, ?_, ?_, ?_, ?_, ?_, ?_, ?_⟩ <;> (intros; first | contradiction | exact hq)
                simp (disch := first | assumption | omega) only [rn, wk, al, wr_e, td_e, tm_e, mset_eq, mset_ne, if_pos, if_neg, Int.reduceAdd, Int.reduceSub, Int.reduceMul, Int.reduceNeg, Int.reduceLT, Int.reduceLE, Int.reduceEq, Int.cast_ofNat_Int, eq_self, and_true, true_and, ite_self, true_or, or_true, false_or, or_false, and_false, false_and, not_true_eq_false, not_false_eq_true, if_true, if_false, e_R_aWay_0, e_R_aWay_17, e_R_aWay_47, e_R_aWay_85, e_R_aWay_119, e_R_aWay_121, e_R_aWay_154, zc, ← hz6]
                exact hp2
            · subst e
              have hq : NoR u (flt T n p4 (nF T n p4)) (tkq T n p4) 0 z2 := ⟨rfl, fun c i y1 y2 y3 => by rw [z2f c i (by omega), zf c i (by omega)]; exact yf c i (by omega) (by omega), z218, z217⟩
              have hp2 : WyP T n p p1 p2 p3 p4 p5 p6 p7 (ixa (s 58) (nmT T n p1) 0 (s 57 1)) (ixa (s 58) (nmT T n p2) 0 (s 57 1)) (s 57 2) u 0 z2 := by
                refine ⟨?_, ?_, ?_, ?_, ?_, ?_, ?_, ?_, ?_, ?_, ?_⟩ <;> (intros; first | contradiction | exact hq)
              simp (disch := first | assumption | omega) only [rn, wk, al, wr_e, td_e, tm_e, mset_eq, mset_ne, if_pos, if_neg, Int.reduceAdd, Int.reduceSub, Int.reduceMul, Int.reduceNeg, Int.reduceLT, Int.reduceLE, Int.reduceEq, Int.cast_ofNat_Int, eq_self, and_true, true_and, ite_self, true_or, or_true, false_or, or_false, and_false, false_and, not_true_eq_false, not_false_eq_true, if_true, if_false, e_R_aWay_0, e_R_aWay_17, e_R_aWay_47, e_R_aWay_85, e_R_aWay_119, e_R_aWay_121, e_R_aWay_154]
              exact hp2
          · subst e
            have hq : NoR u (flt T n p3 2) (tkq T n p3) 0 z := ⟨rfl, fun c i y1 y2 y3 => by rw [zf c i (by omega)]; exact yf c i (by omega) (by omega), z18, z17⟩
            have hp2 : WyP T n p p1 p2 p3 p4 p5 p6 p7 (ixa (s 58) (nmT T n p1) 0 (s 57 1)) (ixa (s 58) (nmT T n p2) 0 (s 57 1)) (s 57 2) u 0 z := by
              refine ⟨?_, ?_, ?_, ?_, ?_, ?_, ?_, ?_, ?_, ?_, ?_⟩ <;> (intros; first | contradiction | exact hq)
            simp (disch := first | assumption | omega) only [rn, wk, al, wr_e, td_e, tm_e, mset_eq, mset_ne, if_pos, if_neg, Int.reduceAdd, Int.reduceSub, Int.reduceMul, Int.reduceNeg, Int.reduceLT, Int.reduceLE, Int.reduceEq, Int.cast_ofNat_Int, eq_self, and_true, true_and, ite_self, true_or, or_true, false_or, or_false, and_false, false_and, not_true_eq_false, not_false_eq_true, if_true, if_false, e_R_aWay_0, e_R_aWay_17, e_R_aWay_47, e_R_aWay_85, e_R_aWay_119, e_R_aWay_121, e_R_aWay_154]
            exact hp2
        · have hp2 : WyP T n p p1 p2 p3 p4 p5 p6 p7 (ixa (s 58) (nmT T n p1) 0 (s 57 1)) (ixa (s 58) (nmT T n p2) 0 (s 57 1)) (s 57 2) u 0 y := by
            rcases g4 with g4 | g4
            · have hq := g2 g4
              refine ⟨?_, ?_, ?_, ?_, ?_, ?_, ?_, ?_, ?_, ?_, ?_⟩ <;> (intros; first | contradiction | exact hq)
            · by_cases on2 : isNm T n p2
              · have hq := g3 on2 g4
                refine ⟨?_, ?_, ?_, ?_, ?_, ?_, ?_, ?_, ?_, ?_, ?_⟩ <;> (intros; first | contradiction | exact hq)
              · have hq := g2 on2
                refine ⟨?_, ?_, ?_, ?_, ?_, ?_, ?_, ?_, ?_, ?_, ?_⟩ <;> (intros; first | contradiction | exact hq)
          simp (disch := first | assumption | omega) only [rn, wk, al, wr_e, td_e, tm_e, mset_eq, mset_ne, if_pos, if_neg, Int.reduceAdd, Int.reduceSub, Int.reduceMul, Int.reduceNeg, Int.reduceLT, Int.reduceLE, Int.reduceEq, Int.cast_ofNat_Int, eq_self, and_true, true_and, ite_self, true_or, or_true, false_or, or_false, and_false, false_and, not_true_eq_false, not_false_eq_true, if_true, if_false, e_R_aWay_0, e_R_aWay_17, e_R_aWay_47, e_R_aWay_85, e_R_aWay_119, e_R_aWay_121, e_R_aWay_154]
          exact hp2
      rcases hbn with ⟨e, on2⟩ | ⟨e, on2⟩
      · subst e
        have qf := r_findHere (D + 3) hT xr on2.1 64 (s 57 1) (by omega) (by omega) (by omega)
        rw [ixc x _ x139] at qf
        by_cases ce : ixa (s 58) (nmT T n p1) 0 (s 57 1) = ixa (s 58) (nmT T n p2) 0 (s 57 1)
        · have q5 := q_Rfails (D + 5) x 5 xr
          have ne2 : ixa (s 58) (nmT T n p2) 0 (s 57 1) ≠ -1 := by rw [← ce]; exact ne1
          have hq : NoR u (flt T n p2 5) (tkq T n p2) 0 (mset (mset x 137 18 (flt T n p2 5)) 137 17 (tkq T n p2)) := NoR_f (fun c i y1 y2 y3 => xu c i (by omega) (by omega))
          have hp2 : WyP T n p p1 p2 p3 p4 p5 p6 p7 (ixa (s 58) (nmT T n p1) 0 (s 57 1)) (ixa (s 58) (nmT T n p2) 0 (s 57 1)) (s 57 2) u 0 (mset (mset x 137 18 (flt T n p2 5)) 137 17 (tkq T n p2)) := by
            refine ⟨?_, ?_, ?_, ?_, ?_, ?_, ?_, ?_, ?_, ?_, ?_⟩ <;> (intros; first | contradiction | exact hq)
          rw [← ce] at qf
          simp (disch := first | assumption | omega) only [rn, wk, al, wr_e, td_e, tm_e, mset_eq, mset_ne, if_pos, if_neg, Int.reduceAdd, Int.reduceSub, Int.reduceMul, Int.reduceNeg, Int.reduceLT, Int.reduceLE, Int.reduceEq, Int.cast_ofNat_Int, eq_self, and_true, true_and, ite_self, true_or, or_true, false_or, or_false, and_false, false_and, not_true_eq_false, not_false_eq_true, if_true, if_false, e_R_aWay_0, e_R_aWay_17, e_R_aWay_47, e_R_aWay_119, e_R_aWay_121, e_R_aWay_154, qn, xm, qf, xv, q5]
          exact hp2
        · have hx := tail (fun _ _ => ce)
          have ce' : ¬ ixa (s 58) (nmT T n p2) 0 (s 57 1) = ixa (s 58) (nmT T n p1) 0 (s 57 1) := fun h => ce h.symm
          simp (disch := first | assumption | omega) only [rn, wk, al, wr_e, td_e, tm_e, mset_eq, mset_ne, if_pos, if_neg, Int.reduceAdd, Int.reduceSub, Int.reduceMul, Int.reduceNeg, Int.reduceLT, Int.reduceLE, Int.reduceEq, Int.cast_ofNat_Int, eq_self, and_true, true_and, ite_self, true_or, or_true, false_or, or_false, and_false, false_and, not_true_eq_false, not_false_eq_true, if_true, if_false, e_R_aWay_0, e_R_aWay_17, e_R_aWay_47, e_R_aWay_119, e_R_aWay_121, e_R_aWay_154, qn, xm, qf, xv, ce']
          exact hx
      · subst e
        have hx := tail (fun h => absurd h on2)
        simp (disch := first | assumption | omega) only [rn, wk, al, wr_e, td_e, tm_e, mset_eq, mset_ne, if_pos, if_neg, Int.reduceAdd, Int.reduceSub, Int.reduceMul, Int.reduceNeg, Int.reduceLT, Int.reduceLE, Int.reduceEq, Int.cast_ofNat_Int, eq_self, and_true, true_and, ite_self, true_or, or_true, false_or, or_false, and_false, false_and, not_true_eq_false, not_false_eq_true, if_true, if_false, e_R_aWay_0, e_R_aWay_17, e_R_aWay_47, e_R_aWay_119, e_R_aWay_121, e_R_aWay_154, qn]
        exact hx
    · subst e
      have hq : NoR u (flt T n p1 2) (tkq T n p1) 0 x := ⟨rfl, fun c i y1 y2 y3 => by rw [xf c i (by omega) (by omega)]; exact a c i (by omega), x18, x17⟩
      have hp2 : WyP T n p p1 p2 p3 p4 p5 p6 p7 (ixa (s 58) (nmT T n p1) 0 (s 57 1)) (ixa (s 58) (nmT T n p2) 0 (s 57 1)) (s 57 2) u 0 x := by
        refine ⟨?_, ?_, ?_, ?_, ?_, ?_, ?_, ?_, ?_, ?_, ?_⟩ <;> (intros; first | contradiction | exact hq)
      simp (disch := first | assumption | omega) only [rn, wk, al, wr_e, td_e, tm_e, mset_eq, mset_ne, if_pos, if_neg, Int.reduceAdd, Int.reduceSub, Int.reduceMul, Int.reduceNeg, Int.reduceLT, Int.reduceLE, Int.reduceEq, Int.cast_ofNat_Int, eq_self, and_true, true_and, ite_self, true_or, or_true, false_or, or_false, and_false, false_and, not_true_eq_false, not_false_eq_true, if_true, if_false, e_R_aWay_0, e_R_aWay_17, e_R_aWay_47, e_R_aWay_85, e_R_aWay_119, e_R_aWay_121, e_R_aWay_154]
      exact hp2
    · subst e
      have hq : NoR u (flt T n p1 3) (tkq T n p1) 0 x := ⟨rfl, fun c i y1 y2 y3 => by rw [xf c i (by omega) (by omega)]; exact a c i (by omega), x18, x17⟩
      have hp2 : WyP T n p p1 p2 p3 p4 p5 p6 p7 (ixa (s 58) (nmT T n p1) 0 (s 57 1)) (ixa (s 58) (nmT T n p2) 0 (s 57 1)) (s 57 2) u 0 x := by
        refine ⟨?_, ?_, ?_, ?_, ?_, ?_, ?_, ?_, ?_, ?_, ?_⟩ <;> (intros; first | contradiction | exact hq)
      simp (disch := first | assumption | omega) only [rn, wk, al, wr_e, td_e, tm_e, mset_eq, mset_ne, if_pos, if_neg, Int.reduceAdd, Int.reduceSub, Int.reduceMul, Int.reduceNeg, Int.reduceLT, Int.reduceLE, Int.reduceEq, Int.cast_ofNat_Int, eq_self, and_true, true_and, ite_self, true_or, or_true, false_or, or_false, and_false, false_and, not_true_eq_false, not_false_eq_true, if_true, if_false, e_R_aWay_0, e_R_aWay_17, e_R_aWay_47, e_R_aWay_85, e_R_aWay_119, e_R_aWay_121, e_R_aWay_154]
      exact hp2
