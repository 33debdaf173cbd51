/-! ===== H2: hall, the class reads a way ===== -/
theorem x_way (d D : Nat) {T : Int → Int} {n p : Int} (hT : TX T n) {s : Mem} (hp : 0 ≤ p ∧ p ≤ n) (hk : TkC T n p s) (hs : Cs T n (tke T n p) s) (hV : ∃ u, HPu s u) : CV (d + 6) 51 [9, 57] s (PX (D + 7) 245 T n p s) := by
  obtain ⟨v, hv⟩ := hV
  obtain ⟨c0, -⟩ := HPu_c hv
  obtain ⟨p1, h1⟩ : ∃ p1, p1 = tke T n p := ⟨_, rfl⟩
  obtain ⟨p2, h2⟩ : ∃ p2, p2 = tke T n p1 := ⟨_, rfl⟩
  obtain ⟨p3, h3⟩ : ∃ p3, p3 = tke T n p2 := ⟨_, rfl⟩
  obtain ⟨p4, h4⟩ : ∃ p4, p4 = tke T n p3 := ⟨_, rfl⟩
  obtain ⟨p5, h5⟩ : ∃ p5, p5 = tke T n p4 := ⟨_, rfl⟩
  obtain ⟨p6, h6⟩ : ∃ p6, p6 = tke T n p5 := ⟨_, rfl⟩
  obtain ⟨p7, h7⟩ : ∃ p7, p7 = tke T n p6 := ⟨_, rfl⟩
  rw [← h1] at hs
  obtain ⟨tb1, tb2, -⟩ := tke_b (T := T) hp
  have hs1 := hs.1
  obtain ⟨ub1, ub2, -⟩ := tke_b (T := T) (n := n) (p := p1) (by omega)
  obtain ⟨vb1, vb2, -⟩ := tke_b (T := T) (n := n) (p := p2) (by omega)
  obtain ⟨wb1, wb2, -⟩ := tke_b (T := T) (n := n) (p := p3) (by omega)
  obtain ⟨xb1, xb2, -⟩ := tke_b (T := T) (n := n) (p := p4) (by omega)
  obtain ⟨yb1, yb2, -⟩ := tke_b (T := T) (n := n) (p := p5) (by omega)
  obtain ⟨zb1, zb2, -⟩ := tke_b (T := T) (n := n) (p := p6) (by omega)
  have no : ∀ k f, (∀ u r w, WyP T n p p1 p2 p3 p4 p5 p6 p7 (ixa (s 58) (nmT T n p1) 0 (s 57 1)) (ixa (s 58) (nmT T n p2) 0 (s 57 1)) (s 57 2) u r w → NoR u k f r w) → ANo (D + 7) 245 T n s p k f := fun k f h u0 u hu => CV_mono (r_way D h1 h2 h3 h4 h5 h6 h7 hT hu) (fun r w hw => NoR_u hu.2.2.2 (h u r w hw))
  obtain ⟨k1, hk1⟩ : ∃ k1, k1 = ixa (s 58) (nmT T n p1) 0 (s 57 1) := ⟨_, rfl⟩
  obtain ⟨k2, hk2⟩ : ∃ k2, k2 = ixa (s 58) (nmT T n p2) 0 (s 57 1) := ⟨_, rfl⟩
  have k1b := ixa_b (s 58) (nmT T n p1) 0 (m := s 57 1) (by omega)
  have k2b := ixa_b (s 58) (nmT T n p2) 0 (m := s 57 1) (by omega)
  simp only [← hk1, ← hk2] at no
  rw [← hk1] at k1b
  rw [← hk2] at k2b
  have fin : ∀ (tE : Mem) (pe x y : Int), s 57 2 ≠ 10 → k1 ≠ -1 → k2 ≠ -1 → k1 ≠ k2 → (∀ c i, ¬ (c = 7 ∧ 3 ≤ i ∧ i ≤ 7) → tE c i = s c i) → TkC T n pe tE → Cs T n (tke T n pe) tE → (p ≤ pe ∧ pe ≤ n) → (1 ≤ x ∧ x ≤ 9) → (0 ≤ y ∧ y ≤ 9) → (∀ u0 u, RlH T n s u0 u p → CV (D + 7) 245 [137] u (WFin T n u (s 57 2) k1 k2 x y pe)) → EV (d + 5) o_HallReader_readWay 148 [] [9, 57, k1, k2, x, y] tE (PX (D + 7) 245 T n p s) := by
    intro tE pe x y n10 ne1 ne2 n12 tf kE cE hpe hx hy ref
    have tc : tE 57 2 = s 57 2 := tf _ _ (by omega)
    obtain ⟨t4, ht4⟩ : ∃ t4, t4 = mset (mset (mset (mset (mset tE 59 (2 * s 57 2) k1) 59 (2 * s 57 2 + 1) k2) 60 (s 57 2) x) 61 (s 57 2) y) 57 2 (s 57 2 + 1) := ⟨_, rfl⟩
    have t4f : ∀ c i, ¬ (c = 57 ∧ i = 2) → ¬ (c = 59 ∧ (i = 2 * s 57 2 ∨ i = 2 * s 57 2 + 1)) → ¬ ((c = 60 ∨ c = 61) ∧ i = s 57 2) → t4 c i = tE c i := fun c i y1 y2 y3 => by rw [ht4]; simp (disch := omega) only [mset_ne]
    have qa : sem (d + 5) 54 [57, k1, k2, x, y] tE = some (0, t4) := by
      apply CV_eq; apply c_Hall_addWay
      simp (disch := first | assumption | omega) only [rn, wk, al, wr_e, td_e, tm_e, mset_eq, mset_ne, if_pos, if_neg, Int.reduceAdd, Int.reduceSub, Int.reduceMul, Int.reduceNeg, Int.reduceLT, Int.reduceLE, Int.reduceEq, Int.cast_ofNat_Int, eq_self, and_true, true_and, ite_self, true_or, or_true, false_or, or_false, and_false, false_and, not_true_eq_false, not_false_eq_true, if_true, if_false, e_Hall_addWay_0, tc, ← ht4]
    obtain ⟨t1, ht1⟩ : ∃ t1, t1 = mset t4 7 3 pe := ⟨_, rfl⟩
    have t1f : ∀ c i, ¬ (c = 7 ∧ i = 3) → t1 c i = t4 c i := fun c i y => by rw [ht1, mset_ne (by omega)]
    have k4 : TkC T n pe t4 := by
      unfold TkC at kE ⊢
      simp (disch := omega) only [t4f]
      exact kE
    have c4 : Cs T n (tke T n pe) t4 := Cs_f (fun c i h => t4f c i (by omega) (by omega) (by omega)) cE
    have c1 : Cs T n pe t1 := ⟨by omega, by rw [ht1, mset_eq rfl rfl], by rw [t1f _ _ (by omega)]; exact c4.2.2.1, fun i hi => by rw [t1f _ _ (by omega)]; exact c4.2.2.2 i hi⟩
    have a1 : Fta t1 t4 := fun c i hc => (t1f c i (by omega)).symm
    have hA : AOk (D + 7) 245 T n s p t1 pe := fun u0 u hu => by
      refine CV_mono (ref u0 u hu) ?_
      rintro r w ⟨e, w1, w2, w3, w4, w5, w6, w7⟩
      refine ⟨e, ?_, w7, ?_, fun c i y1 y2 y3 => ?_⟩
      · refine HP_way (m := s 57 2) (a := k1) (b := k2) (x := x) (y := y) hu.1 rfl (by omega) (show 0 ≤ k1 ∧ k1 < s 57 1 by omega) (show 0 ≤ k2 ∧ k2 < s 57 1 by omega) n12 hx hy (fun k i hk z1 z2 z3 z4 => ?_) ?_ ?_ ?_ ?_ ?_ (fun i z1 z2 z3 z4 => ?_) w6 ?_ ?_ ?_ ?_ (fun i z1 z2 => ?_)
        · show t1 (57 + k) i = s (57 + k) i
          rw [t1f _ _ (by omega), t4f _ _ (by omega) (by omega) (by omega)]; exact tf _ _ (by omega)
        · show t1 57 2 = _
          rw [t1f _ _ (by omega), ht4, mset_eq rfl rfl]
        · show t1 59 (2 * s 57 2) = _
          rw [t1f _ _ (by omega), ht4]; simp (disch := omega) only [mset_ne, mset_eq]
        · show t1 59 (2 * s 57 2 + 1) = _
          rw [t1f _ _ (by omega), ht4]; simp (disch := omega) only [mset_ne, mset_eq]
        · show t1 60 (s 57 2) = _
          rw [t1f _ _ (by omega), ht4]; simp (disch := omega) only [mset_ne, mset_eq]
        · show t1 61 (s 57 2) = _
          rw [t1f _ _ (by omega), ht4]; simp (disch := omega) only [mset_ne, mset_eq]
        · show w 138 (3472 + i) = u 138 (3472 + i)
          exact w1 _ _ (by omega) (by omega)
        · show w 138 (3472 + (10 + 4 * s 57 2)) = _
          rw [show 3472 + (10 + 4 * s 57 2) = 3482 + 4 * s 57 2 by omega]; exact w2
        · show w 138 (3472 + (11 + 4 * s 57 2)) = _
          rw [show 3472 + (11 + 4 * s 57 2) = 3483 + 4 * s 57 2 by omega]; exact w3
        · show w 138 (3472 + (12 + 4 * s 57 2)) = _
          rw [show 3472 + (12 + 4 * s 57 2) = 3484 + 4 * s 57 2 by omega]; exact w4
        · show w 138 (3472 + (13 + 4 * s 57 2)) = _
          rw [show 3472 + (13 + 4 * s 57 2) = 3485 + 4 * s 57 2 by omega]; exact w5
        · show w 139 (64 + i) = u 139 (64 + i)
          exact w1 _ _ (by omega) (by omega)
      · rw [w1 _ _ (by omega) (by omega), t1f _ _ (by omega), t4f _ _ (by omega) (by omega) (by omega), tf _ _ (by omega)]; exact hu.2.2.1
      · rw [w1 c i (by omega) (by omega)]; exact hu.2.2.2 c i y1 y2 y3
    have tot : ∀ c i, ¬ (c = 7 ∧ 3 ≤ i ∧ i ≤ 7) → ¬ (57 ≤ c ∧ c ≤ 76) → t1 c i = s c i := fun c i y1 y2 => by rw [t1f _ _ (by omega), t4f _ _ (by omega) (by omega) (by omega)]; exact tf _ _ (by omega)
    rw [e_HallReader_readWay_148]
    simp (disch := first | assumption | omega) only [rn, wk, al, wr_e, td_e, tm_e, mset_eq, mset_ne, if_pos, if_neg, Int.reduceAdd, Int.reduceSub, Int.reduceMul, Int.reduceNeg, Int.reduceLT, Int.reduceLE, Int.reduceEq, Int.cast_ofNat_Int, eq_self, and_true, true_and, ite_self, true_or, or_true, false_or, or_false, and_false, false_and, not_true_eq_false, not_false_eq_true, if_true, if_false, qa]
    refine EV_call (CV_mono (q_closeHere (d + 3) a1 k4 c4) ?_)
    intro r2 t5 h5
    have h01 := CkP01 h5
    have hfin : PX (D + 7) 245 T n p s r2 t5 := PX_fin (fun c i a b e => tot c i (by omega) e) ⟨tot _ _ (by omega) (by omega), tot _ _ (by omega) (by omega)⟩ (by omega) c1 hA h5
    simp (disch := first | assumption | omega) only [rn, wk, al, wr_e, td_e, tm_e, mset_eq, mset_ne, if_pos, if_neg, Int.reduceAdd, Int.reduceSub, Int.reduceMul, Int.reduceNeg, Int.reduceLT, Int.reduceLE, Int.reduceEq, Int.cast_ofNat_Int, eq_self, and_true, true_and, ite_self, true_or, or_true, false_or, or_false, and_false, false_and, not_true_eq_false, not_false_eq_true, if_true, if_false]
    exact hfin
  apply c_HallReader_readWay
  by_cases c10 : s 57 2 = 10
  · have q6 := q_Trefuse (d + 4) s 6 hk
    have hp2 : PX (D + 7) 245 T n p s 0 (mset (mset s 7 8 (flt T n p 6)) 7 9 (tkq T n p)) := PX_no (Ftf_r (fun _ _ _ => rfl)) (by rw [mset_ne (by omega), mset_eq rfl rfl]) (mset_eq rfl rfl) (flt_p (by omega)) (no _ _ (fun u r w h => h.1 c10))
    simp (disch := first | assumption | omega) only [rn, wk, al, wr_e, td_e, tm_e, mset_eq, mset_ne, if_pos, if_neg, Int.reduceAdd, Int.reduceSub, Int.reduceMul, Int.reduceNeg, Int.reduceLT, Int.reduceLE, Int.reduceEq, Int.cast_ofNat_Int, eq_self, and_true, true_and, ite_self, true_or, or_true, false_or, or_false, and_false, false_and, not_true_eq_false, not_false_eq_true, if_true, if_false, e_HallReader_readWay_0, e_HallReader_readWay_19, e_HallReader_readWay_34, e_HallReader_readWay_39, e_HallReader_readWay_47, e_HallReader_readWay_61, e_HallReader_readWay_85, e_HallReader_readWay_87, e_HallReader_readWay_132, c10, q6]
    exact hp2
  · have hpn1 := q_placeNext (d + 1) hT hs (by omega)
    rw [← hk1] at hpn1
    simp (disch := first | assumption | omega) only [rn, wk, al, wr_e, td_e, tm_e, mset_eq, mset_ne, if_pos, if_neg, Int.reduceAdd, Int.reduceSub, Int.reduceMul, Int.reduceNeg, Int.reduceLT, Int.reduceLE, Int.reduceEq, Int.cast_ofNat_Int, eq_self, and_true, true_and, ite_self, true_or, or_true, false_or, or_false, and_false, false_and, not_true_eq_false, not_false_eq_true, if_true, if_false, e_HallReader_readWay_0, e_HallReader_readWay_19, e_HallReader_readWay_34, e_HallReader_readWay_39, e_HallReader_readWay_47, e_HallReader_readWay_61, e_HallReader_readWay_85, e_HallReader_readWay_87, e_HallReader_readWay_132]
    refine EV_call (CV_mono hpn1 ?_)
    rintro r t1 (⟨e, ne1, on1, f1, kk1, cc1⟩ | ⟨e, f1, g9, g⟩)
    · rw [← h2] at cc1
      subst e
      have e58 : t1 58 = s 58 := funext (fun i => f1 _ _ (by omega))
      have e571 : t1 57 1 = s 57 1 := f1 _ _ (by omega)
      have hpn2 := q_placeNext (d + 1) hT cc1 (by omega)
      rw [e58, e571, ← hk2] at hpn2
      simp (disch := first | assumption | omega) only [rn, wk, al, wr_e, td_e, tm_e, mset_eq, mset_ne, if_pos, if_neg, Int.reduceAdd, Int.reduceSub, Int.reduceMul, Int.reduceNeg, Int.reduceLT, Int.reduceLE, Int.reduceEq, Int.cast_ofNat_Int, eq_self, and_true, true_and, ite_self, true_or, or_true, false_or, or_false, and_false, false_and, not_true_eq_false, not_false_eq_true, if_true, if_false, e_HallReader_readWay_0, e_HallReader_readWay_19, e_HallReader_readWay_34, e_HallReader_readWay_39, e_HallReader_readWay_47, e_HallReader_readWay_61, e_HallReader_readWay_85, e_HallReader_readWay_87, e_HallReader_readWay_132, ne1]
      refine EV_call (CV_mono hpn2 ?_)
      rintro r2 t2 (⟨e, ne2, on2, f2, kk2, cc2⟩ | ⟨e, f2, g9, g⟩)
      · rw [← h3] at cc2
        subst e
        have t2f : ∀ c i, ¬ (c = 7 ∧ 3 ≤ i ∧ i ≤ 7) → t2 c i = s c i := fun c i x => by rw [f2 c i x, f1 c i x]
        by_cases c12 : r = r2
        · have q5 := q_Trefuse (d + 4) t2 5 kk2
          have hp2 : PX (D + 7) 245 T n p s 0 (mset (mset t2 7 8 (flt T n p2 5)) 7 9 (tkq T n p2)) := PX_no (Ftf_r t2f) (by rw [mset_ne (by omega), mset_eq rfl rfl]) (mset_eq rfl rfl) (flt_p (by omega)) (no _ _ (fun u r w h => h.2.2.2.2.2.1 c10 on1 ne1 on2 ne2 c12))
          simp (disch := first | assumption | omega) only [rn, wk, al, wr_e, td_e, tm_e, mset_eq, mset_ne, if_pos, if_neg, Int.reduceAdd, Int.reduceSub, Int.reduceMul, Int.reduceNeg, Int.reduceLT, Int.reduceLE, Int.reduceEq, Int.cast_ofNat_Int, eq_self, and_true, true_and, ite_self, true_or, or_true, false_or, or_false, and_false, false_and, not_true_eq_false, not_false_eq_true, if_true, if_false, e_HallReader_readWay_0, e_HallReader_readWay_19, e_HallReader_readWay_34, e_HallReader_readWay_39, e_HallReader_readWay_47, e_HallReader_readWay_61, e_HallReader_readWay_85, e_HallReader_readWay_87, e_HallReader_readWay_132, ne2, c12, q5]
          exact hp2
        · simp (disch := first | assumption | omega) only [rn, wk, al, wr_e, td_e, tm_e, mset_eq, mset_ne, if_pos, if_neg, Int.reduceAdd, Int.reduceSub, Int.reduceMul, Int.reduceNeg, Int.reduceLT, Int.reduceLE, Int.reduceEq, Int.cast_ofNat_Int, eq_self, and_true, true_and, ite_self, true_or, or_true, false_or, or_false, and_false, false_and, not_true_eq_false, not_false_eq_true, if_true, if_false, e_HallReader_readWay_0, e_HallReader_readWay_19, e_HallReader_readWay_34, e_HallReader_readWay_39, e_HallReader_readWay_47, e_HallReader_readWay_61, e_HallReader_readWay_85, e_HallReader_readWay_87, e_HallReader_readWay_132, ne2, c12]
          refine EV_call (CV_mono (q_wordNext (d + 2) hT cc2 3 (by omega)) ?_)
          rintro r3 t3 (⟨e, ok3, f3, kk3, cc3⟩ | ⟨e, nok, f3, g8, g9⟩)
          · subst e
            rw [← h4] at cc3
            simp (disch := first | assumption | omega) only [rn, wk, al, wr_e, td_e, tm_e, mset_eq, mset_ne, if_pos, if_neg, Int.reduceAdd, Int.reduceSub, Int.reduceMul, Int.reduceNeg, Int.reduceLT, Int.reduceLE, Int.reduceEq, Int.cast_ofNat_Int, eq_self, and_true, true_and, ite_self, true_or, or_true, false_or, or_false, and_false, false_and, not_true_eq_false, not_false_eq_true, if_true, if_false, e_HallReader_readWay_0, e_HallReader_readWay_19, e_HallReader_readWay_34, e_HallReader_readWay_39, e_HallReader_readWay_47, e_HallReader_readWay_61, e_HallReader_readWay_85, e_HallReader_readWay_87, e_HallReader_readWay_132]
            refine EV_call (CV_mono (q_numberNext (d + 2) hT cc3 1 9) ?_)
            rintro r4 t4 (⟨e, ok4, f4, kk4, cc4⟩ | ⟨e, nok, f4, g8, g9⟩)
            · subst e
              rw [← h5] at cc4
              have g6 : t4 7 6 = dvT T n p4 := kk4.2.2.2.2.2.1 ok4.1
              simp (disch := first | assumption | omega) only [rn, wk, al, wr_e, td_e, tm_e, mset_eq, mset_ne, if_pos, if_neg, Int.reduceAdd, Int.reduceSub, Int.reduceMul, Int.reduceNeg, Int.reduceLT, Int.reduceLE, Int.reduceEq, Int.cast_ofNat_Int, eq_self, and_true, true_and, ite_self, true_or, or_true, false_or, or_false, and_false, false_and, not_true_eq_false, not_false_eq_true, if_true, if_false, e_HallReader_readWay_0, e_HallReader_readWay_19, e_HallReader_readWay_34, e_HallReader_readWay_39, e_HallReader_readWay_47, e_HallReader_readWay_61, e_HallReader_readWay_85, e_HallReader_readWay_87, e_HallReader_readWay_132, g6]
              refine EV_call (CV_mono (c_adv (d + 3) hT cc4) ?_)
              rintro r5 t5 ⟨f5, kk5, cc5⟩
              rw [← h6] at cc5
              have t5f : ∀ c i, ¬ (c = 7 ∧ 3 ≤ i ∧ i ≤ 7) → t5 c i = s c i := fun c i x => by rw [f5 c i x, f4 c i x, f3 c i x, t2f c i x]
              have qw := q_Tword (d + 4) t5 kk5
              by_cases ok5 : wOk T n p5 4
              · rw [if_pos ok5.1, ok5.2] at qw
                simp (disch := first | assumption | omega) only [rn, wk, al, wr_e, td_e, tm_e, mset_eq, mset_ne, if_pos, if_neg, Int.reduceAdd, Int.reduceSub, Int.reduceMul, Int.reduceNeg, Int.reduceLT, Int.reduceLE, Int.reduceEq, Int.cast_ofNat_Int, eq_self, and_true, true_and, ite_self, true_or, or_true, false_or, or_false, and_false, false_and, not_true_eq_false, not_false_eq_true, if_true, if_false, e_HallReader_readWay_0, e_HallReader_readWay_19, e_HallReader_readWay_34, e_HallReader_readWay_39, e_HallReader_readWay_47, e_HallReader_readWay_61, e_HallReader_readWay_85, e_HallReader_readWay_87, e_HallReader_readWay_132, qw]
                refine EV_call (CV_mono (q_numberNext (d + 2) hT cc5 0 9) ?_)
                rintro r6 t6 (⟨e, ok6, f6, kk6, cc6⟩ | ⟨e, nok, f6, g8, g9⟩)
                · subst e
                  rw [← h7] at cc6
                  have g66 : t6 7 6 = dvT T n p6 := kk6.2.2.2.2.2.1 ok6.1
                  simp (disch := first | assumption | omega) only [rn, wk, al, wr_e, td_e, tm_e, mset_eq, mset_ne, if_pos, if_neg, Int.reduceAdd, Int.reduceSub, Int.reduceMul, Int.reduceNeg, Int.reduceLT, Int.reduceLE, Int.reduceEq, Int.cast_ofNat_Int, eq_self, and_true, true_and, ite_self, true_or, or_true, false_or, or_false, and_false, false_and, not_true_eq_false, not_false_eq_true, if_true, if_false, e_HallReader_readWay_0, e_HallReader_readWay_19, e_HallReader_readWay_34, e_HallReader_readWay_39, e_HallReader_readWay_47, e_HallReader_readWay_61, e_HallReader_readWay_85, e_HallReader_readWay_87, e_HallReader_readWay_132, g66]
                  refine EV_call (CV_mono (c_adv (d + 3) hT cc6) ?_)
                  rintro r7 t7 ⟨f7, kk7, cc7⟩
                  have hx := fin t7 p7 (dvT T n p4) (dvT T n p6) c10 ne1 ne2 c12 (fun c i x => by rw [f7 c i x, f6 c i x, t5f c i x]) kk7 cc7 (by omega) ok4.2 ok6.2 (fun u0 u hu => CV_mono (r_way D h1 h2 h3 h4 h5 h6 h7 hT hu) (fun r' w h => by
                    rw [← hk1, ← hk2] at h
                    exact h.2.2.2.2.2.2.2.2.2.2 c10 on1 ne1 on2 ne2 c12 ok3 ok4 ok5 ok6))
                  simp (disch := first | assumption | omega) only [rn, wk, al, wr_e, td_e, tm_e, mset_eq, mset_ne, if_pos, if_neg, Int.reduceAdd, Int.reduceSub, Int.reduceMul, Int.reduceNeg, Int.reduceLT, Int.reduceLE, Int.reduceEq, Int.cast_ofNat_Int, eq_self, and_true, true_and, ite_self, true_or, or_true, false_or, or_false, and_false, false_and, not_true_eq_false, not_false_eq_true, if_true, if_false]
                  exact hx
                · subst e
                  have hp2 : PX (D + 7) 245 T n p s 0 t6 := PX_no (fun c i x => by rw [f6 c i x]; exact t5f c i (by omega)) g8 g9 (flt_p (by unfold nF; split <;> omega)) (no _ _ (fun u r w h => h.2.2.2.2.2.2.2.2.2.1 c10 on1 ne1 on2 ne2 c12 ok3 ok4 ok5 nok))
                  simp (disch := first | assumption | omega) only [rn, wk, al, wr_e, td_e, tm_e, mset_eq, mset_ne, if_pos, if_neg, Int.reduceAdd, Int.reduceSub, Int.reduceMul, Int.reduceNeg, Int.reduceLT, Int.reduceLE, Int.reduceEq, Int.cast_ofNat_Int, eq_self, and_true, true_and, ite_self, true_or, or_true, false_or, or_false, and_false, false_and, not_true_eq_false, not_false_eq_true, if_true, if_false, e_HallReader_readWay_0, e_HallReader_readWay_19, e_HallReader_readWay_34, e_HallReader_readWay_39, e_HallReader_readWay_47, e_HallReader_readWay_61, e_HallReader_readWay_85, e_HallReader_readWay_87, e_HallReader_readWay_132]
                  exact hp2
              · have qw' : ∃ z, z ≠ 4 ∧ sem (d + 5) 35 [7] t5 = some (z, t5) := by
                  refine ⟨_, ?_, qw⟩
                  by_cases e1 : tkk T n p5 = 1
                  · rw [if_pos e1]; exact fun h => ok5 ⟨e1, h⟩
                  · rw [if_neg e1]; omega
                obtain ⟨z, hz, qz⟩ := qw'
                have hx := fin t5 p5 (dvT T n p4) 0 c10 ne1 ne2 c12 t5f kk5 (by rw [← h6]; exact cc5) (by omega) ok4.2 (by omega) (fun u0 u hu => CV_mono (r_way D h1 h2 h3 h4 h5 h6 h7 hT hu) (fun r' w h => by
                  rw [← hk1, ← hk2] at h
                  exact h.2.2.2.2.2.2.2.2.1 c10 on1 ne1 on2 ne2 c12 ok3 ok4 ok5))
                simp (disch := first | assumption | omega) only [rn, wk, al, wr_e, td_e, tm_e, mset_eq, mset_ne, if_pos, if_neg, Int.reduceAdd, Int.reduceSub, Int.reduceMul, Int.reduceNeg, Int.reduceLT, Int.reduceLE, Int.reduceEq, Int.cast_ofNat_Int, eq_self, and_true, true_and, ite_self, true_or, or_true, false_or, or_false, and_false, false_and, not_true_eq_false, not_false_eq_true, if_true, if_false, e_HallReader_readWay_0, e_HallReader_readWay_19, e_HallReader_readWay_34, e_HallReader_readWay_39, e_HallReader_readWay_47, e_HallReader_readWay_61, e_HallReader_readWay_85, e_HallReader_readWay_87, e_HallReader_readWay_132, qz]
                exact hx
            · subst e
              have hp2 : PX (D + 7) 245 T n p s 0 t4 := PX_no (fun c i x => by rw [f4 c i x, f3 c i (by omega)]; exact t2f c i (by omega)) g8 g9 (flt_p (by unfold nF; split <;> omega)) (no _ _ (fun u r w h => h.2.2.2.2.2.2.2.1 c10 on1 ne1 on2 ne2 c12 ok3 nok))
              simp (disch := first | assumption | omega) only [rn, wk, al, wr_e, td_e, tm_e, mset_eq, mset_ne, if_pos, if_neg, Int.reduceAdd, Int.reduceSub, Int.reduceMul, Int.reduceNeg, Int.reduceLT, Int.reduceLE, Int.reduceEq, Int.cast_ofNat_Int, eq_self, and_true, true_and, ite_self, true_or, or_true, false_or, or_false, and_false, false_and, not_true_eq_false, not_false_eq_true, if_true, if_false, e_HallReader_readWay_0, e_HallReader_readWay_19, e_HallReader_readWay_34, e_HallReader_readWay_39, e_HallReader_readWay_47, e_HallReader_readWay_61, e_HallReader_readWay_85, e_HallReader_readWay_87, e_HallReader_readWay_132]
              exact hp2
          · subst e
            have hp2 : PX (D + 7) 245 T n p s 0 t3 := PX_no (fun c i x => by rw [f3 c i x]; exact t2f c i (by omega)) g8 g9 (flt_p (by omega)) (no _ _ (fun u r w h => h.2.2.2.2.2.2.1 c10 on1 ne1 on2 ne2 c12 nok))
            simp (disch := first | assumption | omega) only [rn, wk, al, wr_e, td_e, tm_e, mset_eq, mset_ne, if_pos, if_neg, Int.reduceAdd, Int.reduceSub, Int.reduceMul, Int.reduceNeg, Int.reduceLT, Int.reduceLE, Int.reduceEq, Int.cast_ofNat_Int, eq_self, and_true, true_and, ite_self, true_or, or_true, false_or, or_false, and_false, false_and, not_true_eq_false, not_false_eq_true, if_true, if_false, e_HallReader_readWay_0, e_HallReader_readWay_19, e_HallReader_readWay_34, e_HallReader_readWay_39, e_HallReader_readWay_47, e_HallReader_readWay_61, e_HallReader_readWay_85, e_HallReader_readWay_87, e_HallReader_readWay_132]
            exact hp2
      · subst e
        have ff : Ftf s t2 := fun c i x => by rw [f2 c i x]; exact f1 c i (by omega)
        have hp2 : PX (D + 7) 245 T n p s 0 t2 := by
          rcases g with ⟨nok, g8⟩ | ⟨ok, en, g8⟩
          · exact PX_no ff g8 g9 (flt_p (by omega)) (no _ _ (fun u r w h => h.2.2.2.1 c10 on1 ne1 nok))
          · exact PX_no ff g8 g9 (flt_p (by omega)) (no _ _ (fun u r w h => h.2.2.2.2.1 c10 on1 ne1 ok en))
        simp (disch := first | assumption | omega) only [rn, wk, al, wr_e, td_e, tm_e, mset_eq, mset_ne, if_pos, if_neg, Int.reduceAdd, Int.reduceSub, Int.reduceMul, Int.reduceNeg, Int.reduceLT, Int.reduceLE, Int.reduceEq, Int.cast_ofNat_Int, eq_self, and_true, true_and, ite_self, true_or, or_true, false_or, or_false, and_false, false_and, not_true_eq_false, not_false_eq_true, if_true, if_false, e_HallReader_readWay_0, e_HallReader_readWay_19, e_HallReader_readWay_34, e_HallReader_readWay_39, e_HallReader_readWay_47, e_HallReader_readWay_61, e_HallReader_readWay_85, e_HallReader_readWay_87, e_HallReader_readWay_132]
        exact hp2
    · subst e
      have hp2 : PX (D + 7) 245 T n p s 0 t1 := by
        rcases g with ⟨nok, g8⟩ | ⟨ok, en, g8⟩
        · exact PX_no f1 g8 g9 (flt_p (by omega)) (no _ _ (fun u r w h => h.2.1 c10 nok))
        · exact PX_no f1 g8 g9 (flt_p (by omega)) (no _ _ (fun u r w h => h.2.2.1 c10 ok en))
      simp (disch := first | assumption | omega) only [rn, wk, al, wr_e, td_e, tm_e, mset_eq, mset_ne, if_pos, if_neg, Int.reduceAdd, Int.reduceSub, Int.reduceMul, Int.reduceNeg, Int.reduceLT, Int.reduceLE, Int.reduceEq, Int.cast_ofNat_Int, eq_self, and_true, true_and, ite_self, true_or, or_true, false_or, or_false, and_false, false_and, not_true_eq_false, not_false_eq_true, if_true, if_false, e_HallReader_readWay_0, e_HallReader_readWay_19, e_HallReader_readWay_34, e_HallReader_readWay_39, e_HallReader_readWay_47, e_HallReader_readWay_61, e_HallReader_readWay_85, e_HallReader_readWay_87, e_HallReader_readWay_132]
      exact hp2
