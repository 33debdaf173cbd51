/-! ===== H2: hall, the class reads a call ===== -/
theorem x_call (d D : Nat) {T : Int → Int} {n p : Int} (hT : TX T n) {s : Mem} (hp : 0 ≤ p ∧ p ≤ n) (hk : TkC T n p s) (hs : Cs T n (tke T n p) s) (hV : ∃ u, HPu s u) : CV (d + 6) 63 [9, 57] s (PX (D + 7) 256 T n p s) := by
  obtain ⟨v, hv⟩ := hV
  obtain ⟨c0, -⟩ := HPu_c hv
  have hl := HPu_l hv
  obtain ⟨p1, h1⟩ : ∃ p1, p1 = tke T n p := ⟨_, rfl⟩
  obtain ⟨p2, h2⟩ : ∃ p2, p2 = tke T n p1 := ⟨_, rfl⟩
  obtain ⟨p3, h3⟩ : ∃ p3, p3 = tke T n p2 := ⟨_, rfl⟩
  obtain ⟨p4, h4⟩ : ∃ p4, p4 = tke T n p3 := ⟨_, rfl⟩
  obtain ⟨p5, h5⟩ : ∃ p5, p5 = tke T n p4 := ⟨_, rfl⟩
  rw [← h1] at hs
  obtain ⟨tb1, tb2, -⟩ := tke_b (T := T) hp
  have hs1 := hs.1
  obtain ⟨ub1, ub2, -⟩ := tke_b (T := T) (n := n) (p := p1) (by omega)
  obtain ⟨vb1, vb2, -⟩ := tke_b (T := T) (n := n) (p := p2) (by omega)
  obtain ⟨wb1, wb2, -⟩ := tke_b (T := T) (n := n) (p := p3) (by omega)
  obtain ⟨xb1, xb2, -⟩ := tke_b (T := T) (n := n) (p := p4) (by omega)
  obtain ⟨k1, hk1⟩ : ∃ k1, k1 = ixa (s 58) (nmT T n p1) 11 (s 57 4) := ⟨_, rfl⟩
  have k1b := ixa_b (s 58) (nmT T n p1) 11 (m := s 57 4) (by omega)
  rw [← hk1] at k1b
  have no : ∀ k f, (∀ u r w, KlP T n p p1 p2 p3 p4 p5 k1 (s 64 k1) (s 57 5) (spk s 57 (s 57 5) (63 * k1 + 21 * dvT T n p2 + dvT T n p4)) u r w → NoR u k f r w) → ANo (D + 7) 256 T n s p k f := fun k f h u0 u hu => CV_mono (r_call D h1 h2 h3 h4 h5 hT hu hk1) (fun r w hw => NoR_u hu.2.2.2 (h u r w hw))
  apply c_HallReader_readCall
  by_cases c8 : s 57 5 = 8
  · have q6 := q_Trefuse (d + 4) s 6 hk
    have hp2 : PX (D + 7) 256 T n p s 0 (mset (mset s 7 8 (flt T n p 6)) 7 9 (tkq T n p)) := PX_no (Ftf_r (fun _ _ _ => rfl)) (by rw [mset_ne (by omega), mset_eq rfl rfl]) (mset_eq rfl rfl) (flt_p (by omega)) (no _ _ (fun u r w h => h.1 c8))
    simp (disch := first | assumption | omega) only [rn, wk, al, wr_e, td_e, tm_e, mset_eq, mset_ne, if_pos, if_neg, Int.reduceAdd, Int.reduceSub, Int.reduceMul, Int.reduceNeg, Int.reduceLT, Int.reduceLE, Int.reduceEq, Int.cast_ofNat_Int, eq_self, and_true, true_and, ite_self, true_or, or_true, false_or, or_false, and_false, false_and, not_true_eq_false, not_false_eq_true, if_true, if_false, e_HallReader_readCall_0, e_HallReader_readCall_19, e_HallReader_readCall_49, e_HallReader_readCall_51, e_HallReader_readCall_84, e_HallReader_readCall_86, e_HallReader_readCall_111, c8, q6]
    exact hp2
  · have hpn1 := q_callerNext (d + 1) hT hs (by omega)
    rw [← hk1] at hpn1
    simp (disch := first | assumption | omega) only [rn, wk, al, wr_e, td_e, tm_e, mset_eq, mset_ne, if_pos, if_neg, Int.reduceAdd, Int.reduceSub, Int.reduceMul, Int.reduceNeg, Int.reduceLT, Int.reduceLE, Int.reduceEq, Int.cast_ofNat_Int, eq_self, and_true, true_and, ite_self, true_or, or_true, false_or, or_false, and_false, false_and, not_true_eq_false, not_false_eq_true, if_true, if_false, e_HallReader_readCall_0, e_HallReader_readCall_19, e_HallReader_readCall_49, e_HallReader_readCall_51, e_HallReader_readCall_84, e_HallReader_readCall_86, e_HallReader_readCall_111]
    refine EV_call (CV_mono hpn1 ?_)
    rintro r t1 (⟨e, ne1, on1, f1, kk1, cc1⟩ | ⟨e, f1, g9, g⟩)
    · rw [← h2] at cc1
      subst e
      have kb : 0 ≤ r ∧ r < s 57 4 := by omega
      obtain ⟨l1, -, -⟩ := hl r kb
      have tc : t1 64 r = s 64 r := f1 _ _ (by omega)
      simp (disch := first | assumption | omega) only [rn, wk, al, wr_e, td_e, tm_e, mset_eq, mset_ne, if_pos, if_neg, Int.reduceAdd, Int.reduceSub, Int.reduceMul, Int.reduceNeg, Int.reduceLT, Int.reduceLE, Int.reduceEq, Int.cast_ofNat_Int, eq_self, and_true, true_and, ite_self, true_or, or_true, false_or, or_false, and_false, false_and, not_true_eq_false, not_false_eq_true, if_true, if_false, e_HallReader_readCall_0, e_HallReader_readCall_19, e_HallReader_readCall_49, e_HallReader_readCall_51, e_HallReader_readCall_84, e_HallReader_readCall_86, e_HallReader_readCall_111, ne1, tc]
      refine EV_call (CV_mono (q_numberNext (d + 2) hT cc1 0 (s 64 r - 1)) ?_)
      rintro r2 t2 (⟨e, ok2, f2, kk2, cc2⟩ | ⟨e, nok, f2, g8, g9⟩)
      · subst e
        rw [← h3] at cc2
        have dy := ok2.2
        have g6 : t2 7 6 = dvT T n p2 := kk2.2.2.2.2.2.1 ok2.1
        have t2f : ∀ c i, ¬ (c = 7 ∧ 3 ≤ i ∧ i ≤ 7) → t2 c i = s c i := fun c i x => by rw [f2 c i x, f1 c i x]
        simp (disch := first | assumption | omega) only [rn, wk, al, wr_e, td_e, tm_e, mset_eq, mset_ne, if_pos, if_neg, Int.reduceAdd, Int.reduceSub, Int.reduceMul, Int.reduceNeg, Int.reduceLT, Int.reduceLE, Int.reduceEq, Int.cast_ofNat_Int, eq_self, and_true, true_and, ite_self, true_or, or_true, false_or, or_false, and_false, false_and, not_true_eq_false, not_false_eq_true, if_true, if_false, e_HallReader_readCall_0, e_HallReader_readCall_19, e_HallReader_readCall_49, e_HallReader_readCall_51, e_HallReader_readCall_84, e_HallReader_readCall_86, e_HallReader_readCall_111, g6]
        refine EV_call (CV_mono (q_wordNext (d + 2) hT cc2 6 (by omega)) ?_)
        rintro r3 t3 (⟨e, ok3, f3, kk3, cc3⟩ | ⟨e, nok, f3, g8, g9⟩)
        · subst e
          rw [← h4] at cc3
          simp (disch := first | assumption | omega) only [rn, wk, al, wr_e, td_e, tm_e, mset_eq, mset_ne, if_pos, if_neg, Int.reduceAdd, Int.reduceSub, Int.reduceMul, Int.reduceNeg, Int.reduceLT, Int.reduceLE, Int.reduceEq, Int.cast_ofNat_Int, eq_self, and_true, true_and, ite_self, true_or, or_true, false_or, or_false, and_false, false_and, not_true_eq_false, not_false_eq_true, if_true, if_false, e_HallReader_readCall_0, e_HallReader_readCall_19, e_HallReader_readCall_49, e_HallReader_readCall_51, e_HallReader_readCall_84, e_HallReader_readCall_86, e_HallReader_readCall_111]
          refine EV_call (CV_mono (q_numberNext (d + 2) hT cc3 0 20) ?_)
          rintro r4 t4 (⟨e, ok4, f4, kk4, cc4⟩ | ⟨e, nok, f4, g8, g9⟩)
          · subst e
            rw [← h5] at cc4
            have d4 := ok4.2
            have g66 : t4 7 6 = dvT T n p4 := kk4.2.2.2.2.2.1 ok4.1
            have t4f : ∀ c i, ¬ (c = 7 ∧ 3 ≤ i ∧ i ≤ 7) → t4 c i = s c i := fun c i x => by rw [f4 c i x, f3 c i x, t2f c i x]
            have q4 : t4 57 4 = s 57 4 := t4f _ _ (by omega)
            have q5 : t4 57 5 = s 57 5 := t4f _ _ (by omega)
            have q64 : ∀ c, t4 64 c = s 64 c := fun c => t4f _ _ (by omega)
            have qsp : spk t4 57 (t4 57 5) (63 * r + 21 * dvT T n p2 + dvT T n p4) ↔ spk s 57 (s 57 5) (63 * r + 21 * dvT T n p2 + dvT T n p4) := by
              unfold spk
              rw [q5]
              constructor
              · rintro ⟨k, a, b⟩; exact ⟨k, a, by rw [← b]; exact (t4f _ _ (by omega)).symm⟩
              · rintro ⟨k, a, b⟩; exact ⟨k, a, by rw [← b]; exact t4f _ _ (by omega)⟩
            simp (disch := first | assumption | omega) only [rn, wk, al, wr_e, td_e, tm_e, mset_eq, mset_ne, if_pos, if_neg, Int.reduceAdd, Int.reduceSub, Int.reduceMul, Int.reduceNeg, Int.reduceLT, Int.reduceLE, Int.reduceEq, Int.cast_ofNat_Int, eq_self, and_true, true_and, ite_self, true_or, or_true, false_or, or_false, and_false, false_and, not_true_eq_false, not_false_eq_true, if_true, if_false, e_HallReader_readCall_0, e_HallReader_readCall_19, e_HallReader_readCall_49, e_HallReader_readCall_51, e_HallReader_readCall_84, e_HallReader_readCall_86, e_HallReader_readCall_111, g66]
            refine EV_call (CV_mono (q_addCall (d + 3) isH57 r (dvT T n p2) (dvT T n p4) t4 (by omega) (by omega) (fun c hc => by have := (hl c (by omega)).1; show t4 64 c ≤ 3; rw [q64]; omega) d4) ?_)
            rintro r5 t5 (⟨e5, e6, hx⟩ | ⟨y1, y2, ⟨e5, e6, hx⟩ | ⟨y3, ⟨e5, e6, hx⟩ | ⟨e5, e6, hx⟩⟩⟩)
            · exfalso; apply hx
              refine ⟨by omega, ?_⟩
              show 0 ≤ dvT T n p2 ∧ dvT T n p2 < t4 64 r
              rw [q64]; omega
            · omega
            · subst e5 e6
              have q5' := q_Trefuse (d + 4) t5 5 kk4
              have hp2 : PX (D + 7) 256 T n p s 0 (mset (mset t5 7 8 (flt T n p4 5)) 7 9 (tkq T n p4)) := PX_no (Ftf_r t4f) (by rw [mset_ne (by omega), mset_eq rfl rfl]) (mset_eq rfl rfl) (flt_p (by omega)) (no _ _ (fun u r w h => h.2.2.2.2.2.2.1 c8 on1 ne1 ok2 ok3 ok4 (qsp.1 hx)))
              simp (disch := first | assumption | omega) only [rn, wk, al, wr_e, td_e, tm_e, mset_eq, mset_ne, if_pos, if_neg, Int.reduceAdd, Int.reduceSub, Int.reduceMul, Int.reduceNeg, Int.reduceLT, Int.reduceLE, Int.reduceEq, Int.cast_ofNat_Int, eq_self, and_true, true_and, ite_self, true_or, or_true, false_or, or_false, and_false, false_and, not_true_eq_false, not_false_eq_true, if_true, if_false, e_HallReader_readCall_0, e_HallReader_readCall_19, e_HallReader_readCall_49, e_HallReader_readCall_51, e_HallReader_readCall_84, e_HallReader_readCall_86, e_HallReader_readCall_111, q5']
              exact hp2
            · have nsp : ¬ spk s 57 (s 57 5) (63 * r + 21 * dvT T n p2 + dvT T n p4) := fun h => hx (qsp.2 h)
              subst e5
              rw [q5] at e6
              have t5f : ∀ c i, ¬ (c = 57 ∧ i = 5) → ¬ (c = 66 ∧ i = s 57 5) → t5 c i = t4 c i := fun c i z1 z2 => by rw [e6, mset_ne (by omega), mset_ne (by omega)]
              have hA : AOk (D + 7) 256 T n s p t5 p5 := fun u0 u hu => by
                refine CV_mono (r_call D h1 h2 h3 h4 h5 hT hu hk1) ?_
                intro r' w h
                obtain ⟨e, w1, w2, w3, w4, w5, w6⟩ := h.2.2.2.2.2.2.2 c8 on1 ne1 ok2 ok3 ok4 nsp
                refine ⟨e, ?_, w6, ?_, fun c i z1 z2 z3 => ?_⟩
                · refine HP_call (m := s 57 5) (c := r) (y := dvT T n p2) (b := dvT T n p4) hu.1 rfl (by omega) kb (show 0 ≤ dvT T n p2 ∧ dvT T n p2 < s 64 r by omega) d4 (fun k i hk z1 z2 => ?_) ?_ ?_ (fun i z1 z2 z3 z4 => ?_) w5 ?_ ?_ ?_ (fun i z1 z2 => ?_)
                  · show t5 (57 + k) i = s (57 + k) i
                    rw [t5f _ _ (by omega) (by omega)]; exact t4f _ _ (by omega)
                  · show t5 57 5 = _
                    rw [e6, mset_eq rfl rfl]
                  · show t5 66 _ = _
                    rw [e6, mset_ne (by omega), mset_eq (by omega) rfl]
                  · show w 138 (3472 + i) = u 138 (3472 + i)
                    exact w1 _ _ (by omega) (by omega)
                  · show w 138 (3472 + (109 + 3 * s 57 5)) = _
                    rw [show 3472 + (109 + 3 * s 57 5) = 3581 + 3 * s 57 5 by omega]; exact w2
                  · show w 138 (3472 + (110 + 3 * s 57 5)) = _
                    rw [show 3472 + (110 + 3 * s 57 5) = 3582 + 3 * s 57 5 by omega]; exact w3
                  · show w 138 (3472 + (111 + 3 * s 57 5)) = _
                    rw [show 3472 + (111 + 3 * s 57 5) = 3583 + 3 * s 57 5 by omega]; exact w4
                  · show w 139 (64 + i) = u 139 (64 + i)
                    exact w1 _ _ (by omega) (by omega)
                · rw [w1 _ _ (by omega) (by omega), t5f _ _ (by omega) (by omega), t4f _ _ (by omega)]; exact hu.2.2.1
                · rw [w1 c i (by omega) (by omega)]; exact hu.2.2.2 c i z1 z2 z3
              have c5 : Cs T n p5 t5 := Cs_f (fun c i h => t5f c i (by omega) (by omega)) cc4
              simp (disch := first | assumption | omega) only [rn, wk, al, wr_e, td_e, tm_e, mset_eq, mset_ne, if_pos, if_neg, Int.reduceAdd, Int.reduceSub, Int.reduceMul, Int.reduceNeg, Int.reduceLT, Int.reduceLE, Int.reduceEq, Int.cast_ofNat_Int, eq_self, and_true, true_and, ite_self, true_or, or_true, false_or, or_false, and_false, false_and, not_true_eq_false, not_false_eq_true, if_true, if_false, e_HallReader_readCall_0, e_HallReader_readCall_19, e_HallReader_readCall_49, e_HallReader_readCall_51, e_HallReader_readCall_84, e_HallReader_readCall_86, e_HallReader_readCall_111]
              refine EV_call (CV_mono (q_closeNext (d + 2) hT c5) ?_)
              intro r6 t6 h6
              have h01 := CkP01 h6
              have hfin : PX (D + 7) 256 T n p s r6 t6 := PX_fin (fun c i a b e => by rw [t5f c i (by omega) (by omega)]; exact t4f c i (by omega)) ⟨by rw [t5f _ _ (by omega) (by omega)]; exact t4f _ _ (by omega), by rw [t5f _ _ (by omega) (by omega)]; exact t4f _ _ (by omega)⟩ (by omega) c5 hA h6
              simp (disch := first | assumption | omega) only [rn, wk, al, wr_e, td_e, tm_e, mset_eq, mset_ne, if_pos, if_neg, Int.reduceAdd, Int.reduceSub, Int.reduceMul, Int.reduceNeg, Int.reduceLT, Int.reduceLE, Int.reduceEq, Int.cast_ofNat_Int, eq_self, and_true, true_and, ite_self, true_or, or_true, false_or, or_false, and_false, false_and, not_true_eq_false, not_false_eq_true, if_true, if_false, e_HallReader_readCall_0, e_HallReader_readCall_19, e_HallReader_readCall_49, e_HallReader_readCall_51, e_HallReader_readCall_84, e_HallReader_readCall_86, e_HallReader_readCall_111]
              exact hfin
          · subst e
            have hp2 : PX (D + 7) 256 T n p s 0 t4 := PX_no (fun c i x => by rw [f4 c i x, f3 c i (by omega)]; exact t2f c i (by omega)) g8 g9 (flt_p nF_p) (no _ _ (fun u r w h => h.2.2.2.2.2.1 c8 on1 ne1 ok2 ok3 nok))
            simp (disch := first | assumption | omega) only [rn, wk, al, wr_e, td_e, tm_e, mset_eq, mset_ne, if_pos, if_neg, Int.reduceAdd, Int.reduceSub, Int.reduceMul, Int.reduceNeg, Int.reduceLT, Int.reduceLE, Int.reduceEq, Int.cast_ofNat_Int, eq_self, and_true, true_and, ite_self, true_or, or_true, false_or, or_false, and_false, false_and, not_true_eq_false, not_false_eq_true, if_true, if_false, e_HallReader_readCall_0, e_HallReader_readCall_19, e_HallReader_readCall_49, e_HallReader_readCall_51, e_HallReader_readCall_84, e_HallReader_readCall_86, e_HallReader_readCall_111]
            exact hp2
        · subst e
          have hp2 : PX (D + 7) 256 T n p s 0 t3 := PX_no (fun c i x => by rw [f3 c i x]; exact t2f c i (by omega)) g8 g9 (flt_p (by omega)) (no _ _ (fun u r w h => h.2.2.2.2.1 c8 on1 ne1 ok2 nok))
          simp (disch := first | assumption | omega) only [rn, wk, al, wr_e, td_e, tm_e, mset_eq, mset_ne, if_pos, if_neg, Int.reduceAdd, Int.reduceSub, Int.reduceMul, Int.reduceNeg, Int.reduceLT, Int.reduceLE, Int.reduceEq, Int.cast_ofNat_Int, eq_self, and_true, true_and, ite_self, true_or, or_true, false_or, or_false, and_false, false_and, not_true_eq_false, not_false_eq_true, if_true, if_false, e_HallReader_readCall_0, e_HallReader_readCall_19, e_HallReader_readCall_49, e_HallReader_readCall_51, e_HallReader_readCall_84, e_HallReader_readCall_86, e_HallReader_readCall_111]
          exact hp2
      · subst e
        have hp2 : PX (D + 7) 256 T n p s 0 t2 := PX_no (fun c i x => by rw [f2 c i x]; exact f1 c i (by omega)) g8 g9 (flt_p nF_p) (no _ _ (fun u r w h => h.2.2.2.1 c8 on1 ne1 nok))
        simp (disch := first | assumption | omega) only [rn, wk, al, wr_e, td_e, tm_e, mset_eq, mset_ne, if_pos, if_neg, Int.reduceAdd, Int.reduceSub, Int.reduceMul, Int.reduceNeg, Int.reduceLT, Int.reduceLE, Int.reduceEq, Int.cast_ofNat_Int, eq_self, and_true, true_and, ite_self, true_or, or_true, false_or, or_false, and_false, false_and, not_true_eq_false, not_false_eq_true, if_true, if_false, e_HallReader_readCall_0, e_HallReader_readCall_19, e_HallReader_readCall_49, e_HallReader_readCall_51, e_HallReader_readCall_84, e_HallReader_readCall_86, e_HallReader_readCall_111]
        exact hp2
    · subst e
      have hp2 : PX (D + 7) 256 T n p s 0 t1 := by
        rcases g with ⟨nok, g8⟩ | ⟨ok, en, g8⟩
        · exact PX_no f1 g8 g9 (flt_p (by omega)) (no _ _ (fun u r w h => h.2.1 c8 nok))
        · exact PX_no f1 g8 g9 (flt_p (by omega)) (no _ _ (fun u r w h => h.2.2.1 c8 ok en))
      simp (disch := first | assumption | omega) only [rn, wk, al, wr_e, td_e, tm_e, mset_eq, mset_ne, if_pos, if_neg, Int.reduceAdd, Int.reduceSub, Int.reduceMul, Int.reduceNeg, Int.reduceLT, Int.reduceLE, Int.reduceEq, Int.cast_ofNat_Int, eq_self, and_true, true_and, ite_self, true_or, or_true, false_or, or_false, and_false, false_and, not_true_eq_false, not_false_eq_true, if_true, if_false, e_HallReader_readCall_0, e_HallReader_readCall_19, e_HallReader_readCall_49, e_HallReader_readCall_51, e_HallReader_readCall_84, e_HallReader_readCall_86, e_HallReader_readCall_111]
      exact hp2
