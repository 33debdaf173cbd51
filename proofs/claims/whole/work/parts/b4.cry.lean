/-! ===== H2: hall, the class reads a cry ===== -/
def PnP (T : Int → Int) (n p : Int) (s : Mem) (r : Int) (t : Mem) : Prop := (tkk T n p ≠ 2 ∧ r = 0 ∧ Fta s t ∧ TkC T n p t ∧ Cs T n (tke T n p) t) ∨ (tkk T n p = 2 ∧ nOk T n p 1 99 ∧ r = dvT T n p ∧ Fta s t ∧ TkC T n p t ∧ Cs T n (tke T n p) t) ∨ (tkk T n p = 2 ∧ ¬ nOk T n p 1 99 ∧ r = -1 ∧ Ftf s t ∧ t 7 8 = flt T n p (nF T n p) ∧ t 7 9 = tkq T n p)
theorem q_perhaps (d : Nat) {T : Int → Int} {n p : Int} (hT : TX T n) {s : Mem} (hs : Cs T n p s) : CV (d + 3) 61 [9] s (PnP T n p s) := by
  apply c_HallReader_perhapsNumberNext
  simp (disch := first | assumption | omega) only [rn, wk, al, wr_e, td_e, tm_e, mset_eq, mset_ne, if_pos, if_neg, Int.reduceAdd, Int.reduceSub, Int.reduceMul, Int.reduceNeg, Int.reduceLT, Int.reduceLE, Int.reduceEq, Int.cast_ofNat_Int, eq_self, and_true, true_and, ite_self, true_or, or_true, false_or, or_false, and_false, false_and, not_true_eq_false, not_false_eq_true, if_true, if_false, e_HallReader_perhapsNumberNext_0, e_HallReader_perhapsNumberNext_20, e_HallReader_perhapsNumberNext_43, e_HallReader_perhapsNumberNext_44]
  refine EV_call (CV_mono (c_adv d hT hs) ?_)
  rintro r t ⟨a, b, c⟩
  have h4 := b.2.2.2.1
  by_cases e1 : tkk T n p = 2
  · have k4 : t 7 4 = 2 := by rw [h4, e1]
    simp (disch := first | assumption | omega) only [rn, wk, al, wr_e, td_e, tm_e, mset_eq, mset_ne, if_pos, if_neg, Int.reduceAdd, Int.reduceSub, Int.reduceMul, Int.reduceNeg, Int.reduceLT, Int.reduceLE, Int.reduceEq, Int.cast_ofNat_Int, eq_self, and_true, true_and, ite_self, true_or, or_true, false_or, or_false, and_false, false_and, not_true_eq_false, not_false_eq_true, if_true, if_false, e_HallReader_perhapsNumberNext_0, e_HallReader_perhapsNumberNext_20, e_HallReader_perhapsNumberNext_43, e_HallReader_perhapsNumberNext_44, k4]
    refine EV_call (CV_mono (q_numberHere d a b c 1 99) ?_)
    rintro r2 t2 (⟨e, ok, f, k, c2⟩ | ⟨e, nok, f, g8, g9⟩)
    · subst e
      have g6 : t2 7 6 = dvT T n p := k.2.2.2.2.2.1 ok.1
      have hp : PnP T n p s (dvT T n p) t2 := Or.inr (Or.inl ⟨e1, ok, rfl, f, k, c2⟩)
      simp (disch := first | assumption | omega) only [rn, wk, al, wr_e, td_e, tm_e, mset_eq, mset_ne, if_pos, if_neg, Int.reduceAdd, Int.reduceSub, Int.reduceMul, Int.reduceNeg, Int.reduceLT, Int.reduceLE, Int.reduceEq, Int.cast_ofNat_Int, eq_self, and_true, true_and, ite_self, true_or, or_true, false_or, or_false, and_false, false_and, not_true_eq_false, not_false_eq_true, if_true, if_false, e_HallReader_perhapsNumberNext_0, e_HallReader_perhapsNumberNext_20, e_HallReader_perhapsNumberNext_43, e_HallReader_perhapsNumberNext_44, g6]
      exact hp
    · subst e
      have hp : PnP T n p s (-1) t2 := Or.inr (Or.inr ⟨e1, nok, rfl, f, g8, g9⟩)
      simp (disch := first | assumption | omega) only [rn, wk, al, wr_e, td_e, tm_e, mset_eq, mset_ne, if_pos, if_neg, Int.reduceAdd, Int.reduceSub, Int.reduceMul, Int.reduceNeg, Int.reduceLT, Int.reduceLE, Int.reduceEq, Int.cast_ofNat_Int, eq_self, and_true, true_and, ite_self, true_or, or_true, false_or, or_false, and_false, false_and, not_true_eq_false, not_false_eq_true, if_true, if_false, e_HallReader_perhapsNumberNext_0, e_HallReader_perhapsNumberNext_20, e_HallReader_perhapsNumberNext_43, e_HallReader_perhapsNumberNext_44]
      exact hp
  · have hp : PnP T n p s 0 t := Or.inl ⟨e1, rfl, a, b, c⟩
    simp (disch := first | assumption | omega) only [rn, wk, al, wr_e, td_e, tm_e, mset_eq, mset_ne, if_pos, if_neg, Int.reduceAdd, Int.reduceSub, Int.reduceMul, Int.reduceNeg, Int.reduceLT, Int.reduceLE, Int.reduceEq, Int.cast_ofNat_Int, eq_self, and_true, true_and, ite_self, true_or, or_true, false_or, or_false, and_false, false_and, not_true_eq_false, not_false_eq_true, if_true, if_false, e_HallReader_perhapsNumberNext_0, e_HallReader_perhapsNumberNext_20, e_HallReader_perhapsNumberNext_43, e_HallReader_perhapsNumberNext_44, h4]
    exact hp
theorem nF_p {T : Int → Int} {n p : Int} : 0 < nF T n p := by unfold nF; split <;> omega
theorem x_cry (d D : Nat) {T : Int → Int} {n p : Int} (hT : TX T n) {s : Mem} (hp : 0 ≤ p ∧ p ≤ n) (hk : TkC T n p s) (hs : Cs T n (tke T n p) s) (hV : ∃ u, HPu s u) : CV (d + 6) 59 [9, 57] s (PX (D + 7) 254 T n p s) := by
  obtain ⟨v, hv⟩ := hV
  obtain ⟨c0, -⟩ := HPu_c hv
  obtain ⟨p1, h1⟩ : ∃ p1, p1 = tke T n p := ⟨_, rfl⟩
  obtain ⟨p2, h2⟩ : ∃ p2, p2 = tke T n p1 := ⟨_, rfl⟩
  obtain ⟨p3, h3⟩ : ∃ p3, p3 = tke T n p2 := ⟨_, rfl⟩
  obtain ⟨p4, h4⟩ : ∃ p4, p4 = tke T n p3 := ⟨_, rfl⟩
  obtain ⟨p5, h5⟩ : ∃ p5, p5 = tke T n p4 := ⟨_, rfl⟩
  rw [← h1] at hs
  obtain ⟨tb1, tb2, -⟩ := tke_b (T := T) hp
  have hs1 := hs.1
  obtain ⟨ub1, ub2, -⟩ := tke_b (T := T) (n := n) (p := p1) (by omega)
  obtain ⟨vb1, vb2, -⟩ := tke_b (T := T) (n := n) (p := p2) (by omega)
  obtain ⟨wb1, wb2, -⟩ := tke_b (T := T) (n := n) (p := p3) (by omega)
  obtain ⟨xb1, xb2, -⟩ := tke_b (T := T) (n := n) (p := p4) (by omega)
  obtain ⟨k1, hk1⟩ : ∃ k1, k1 = ixa (s 58) (nmT T n p1) 11 (s 57 4) := ⟨_, rfl⟩
  have k1b := ixa_b (s 58) (nmT T n p1) 11 (m := s 57 4) (by omega)
  rw [← hk1] at k1b
  have no : ∀ k f, (∀ u r w, CyP T n p1 p2 p3 p4 p5 k1 (s 64 k1) u r w → NoR u k f r w) → ANo (D + 7) 254 T n s p k f := fun k f h u0 u hu => CV_mono (r_cry D h1 h2 h3 h4 h5 hT hu hk1) (fun r w hw => NoR_u hu.2.2.2 (h u r w hw))
  -- the cry is put into the hall
  have put : ∀ (tE : Mem) (pe x0 x1 x2 : Int), k1 ≠ -1 → s 64 k1 ≠ 3 → (∀ c i, ¬ (c = 7 ∧ 3 ≤ i ∧ i ≤ 7) → tE c i = s c i) → (1 ≤ x0 ∧ x0 ≤ 99) → (0 ≤ x1 ∧ x1 ≤ 99) → (0 ≤ x2 ∧ x2 ≤ 99) → (∀ u0 u, RlH T n s u0 u p → CV (D + 7) 254 [137] u (CFin T n u k1 (s 64 k1) x0 x1 x2 pe)) → ∃ t4, sem (d + 5) 62 [57, k1, x0, x1, x2] tE = some (s 64 k1, t4) ∧ (∀ c i, ¬ (57 ≤ c ∧ c ≤ 76) → t4 c i = tE c i) ∧ ∀ t1 : Mem, (∀ c i, (57 ≤ c ∧ c ≤ 76) ∨ c = 9 → t1 c i = t4 c i) → AOk (D + 7) 254 T n s p t1 pe := by
    intro tE pe x0 x1 x2 ne1 n3 tf hx0 hx1 hx2 ref
    have kb : 0 ≤ k1 ∧ k1 < s 57 4 := by omega
    obtain ⟨l1, -, -⟩ := HPu_l hv k1 kb
    have tc : tE 64 k1 = s 64 k1 := tf _ _ (by omega)
    have ei : (k1 * 3 + s 64 k1) * 3 = 9 * k1 + 3 * s 64 k1 := by omega
    obtain ⟨t4, ht4⟩ : ∃ t4, t4 = mset (mset (mset (mset tE 65 (9 * k1 + 3 * s 64 k1) x0) 65 (9 * k1 + 3 * s 64 k1 + 1) x1) 65 (9 * k1 + 3 * s 64 k1 + 2) x2) 64 k1 (s 64 k1 + 1) := ⟨_, rfl⟩
    have t4f : ∀ c i, ¬ (c = 64 ∧ i = k1) → ¬ (c = 65 ∧ 9 * k1 + 3 * s 64 k1 ≤ i ∧ i < 9 * k1 + 3 * s 64 k1 + 3) → t4 c i = tE c i := fun c i y1 y2 => by rw [ht4]; simp (disch := omega) only [mset_ne]
    refine ⟨t4, ?_, fun c i hc => t4f c i (by omega) (by omega), fun t1 t1f u0 u hu => ?_⟩
    · apply CV_eq; apply c_Hall_addCry
      simp (disch := first | assumption | omega) only [rn, wk, al, wr_e, td_e, tm_e, mset_eq, mset_ne, if_pos, if_neg, Int.reduceAdd, Int.reduceSub, Int.reduceMul, Int.reduceNeg, Int.reduceLT, Int.reduceLE, Int.reduceEq, Int.cast_ofNat_Int, eq_self, and_true, true_and, ite_self, true_or, or_true, false_or, or_false, and_false, false_and, not_true_eq_false, not_false_eq_true, if_true, if_false, e_Hall_addCry_0, tc, ei, ← ht4]
    · refine CV_mono (ref u0 u hu) ?_
      rintro r w ⟨e, w1, w2, w3, w4, w5, w6⟩
      refine ⟨e, ?_, w6, ?_, fun c i y1 y2 y3 => ?_⟩
      · refine HP_cry (c := k1) (k := s 64 k1) (x := fun i => if i = 0 then x0 else if i = 1 then x1 else x2) hu.1 kb rfl (by omega) (fun i hi => ?_) (fun j i hj z1 z2 => ?_) ?_ (fun i hi => ?_) (fun i z1 z2 z3 z4 => ?_) ?_ (fun i hi => ?_) (fun i z1 z2 => ?_)
        · show 0 ≤ (if i = 0 then x0 else if i = 1 then x1 else x2) ∧ (if i = 0 then x0 else if i = 1 then x1 else x2) ≤ 99
          split
          · omega
          · split <;> omega
        · show t1 (57 + j) i = s (57 + j) i
          rw [t1f _ _ (by omega), t4f _ _ (by omega) (by omega)]; exact tf _ _ (by omega)
        · show t1 64 k1 = _
          rw [t1f _ _ (by omega), ht4, mset_eq rfl rfl]
        · show t1 65 (9 * k1 + 3 * s 64 k1 + i) = (if i = 0 then x0 else if i = 1 then x1 else x2)
          rw [t1f _ _ (by omega), ht4]
          obtain rfl | rfl | rfl : i = 0 ∨ i = 1 ∨ i = 2 := by omega
          · simp (disch := omega) only [mset_ne, mset_eq, Int.add_zero, if_true]
          · simp (disch := omega) only [mset_ne, mset_eq]
            rfl
          · simp (disch := omega) only [mset_ne, mset_eq]
            rfl
        · show w 138 (3472 + i) = u 138 (3472 + i)
          exact w1 _ _ (by omega) (by omega)
        · show w 138 (3472 + (55 + 11 * k1)) = _
          rw [show 3472 + (55 + 11 * k1) = 3527 + 11 * k1 by omega]; exact w2
        · show w 138 (3472 + (56 + 11 * k1 + 3 * s 64 k1 + i)) = (if i = 0 then x0 else if i = 1 then x1 else x2)
          obtain rfl | rfl | rfl : i = 0 ∨ i = 1 ∨ i = 2 := by omega
          · rw [show 3472 + (56 + 11 * k1 + 3 * s 64 k1 + 0) = 3528 + 11 * k1 + 3 * s 64 k1 by omega]; exact w3
          · rw [show 3472 + (56 + 11 * k1 + 3 * s 64 k1 + 1) = 3528 + 11 * k1 + 3 * s 64 k1 + 1 by omega]; exact w4
          · rw [show 3472 + (56 + 11 * k1 + 3 * s 64 k1 + 2) = 3528 + 11 * k1 + 3 * s 64 k1 + 2 by omega]; exact w5
        · show w 139 (64 + i) = u 139 (64 + i)
          exact w1 _ _ (by omega) (by omega)
      · rw [w1 _ _ (by omega) (by omega), t1f _ _ (by omega), t4f _ _ (by omega) (by omega), tf _ _ (by omega)]; exact hu.2.2.1
      · rw [w1 c i (by omega) (by omega)]; exact hu.2.2.2 c i y1 y2 y3
  -- where the token that stands here must close
  have here : ∀ (tE : Mem) (pe x0 x1 : Int), k1 ≠ -1 → s 64 k1 ≠ 3 → (∀ c i, ¬ (c = 7 ∧ 3 ≤ i ∧ i ≤ 7) → tE c i = s c i) → TkC T n pe tE → Cs T n (tke T n pe) tE → (p ≤ pe ∧ pe ≤ n) → (1 ≤ x0 ∧ x0 ≤ 99) → (0 ≤ x1 ∧ x1 ≤ 99) → (∀ u0 u, RlH T n s u0 u p → CV (D + 7) 254 [137] u (CFin T n u k1 (s 64 k1) x0 x1 0 pe)) → EV (d + 5) o_HallReader_readCry 91 [] [9, 57, k1, x0, x1, 0] tE (PX (D + 7) 254 T n p s) := by
    intro tE pe x0 x1 ne1 n3 tf kE cE hpe hx0 hx1 ref
    obtain ⟨t4, qa, t4f, hA⟩ := put tE pe x0 x1 0 ne1 n3 tf hx0 hx1 (by omega) ref
    obtain ⟨t1, ht1⟩ : ∃ t1, t1 = mset t4 7 3 pe := ⟨_, rfl⟩
    have t1f : ∀ c i, ¬ (c = 7 ∧ i = 3) → t1 c i = t4 c i := fun c i y => by rw [ht1, mset_ne (by omega)]
    have k4 : TkC T n pe t4 := by
      unfold TkC at kE ⊢
      simp (disch := omega) only [t4f]
      exact kE
    have c4 : Cs T n (tke T n pe) t4 := Cs_f (fun c i h => t4f c i (by omega)) cE
    have c1 : Cs T n pe t1 := ⟨by omega, by rw [ht1, mset_eq rfl rfl], by rw [t1f _ _ (by omega)]; exact c4.2.2.1, fun i hi => by rw [t1f _ _ (by omega)]; exact c4.2.2.2 i hi⟩
    have a1 : Fta t1 t4 := fun c i hc => (t1f c i (by omega)).symm
    have tot : ∀ c i, ¬ (c = 7 ∧ 3 ≤ i ∧ i ≤ 7) → ¬ (57 ≤ c ∧ c ≤ 76) → t1 c i = s c i := fun c i y1 y2 => by rw [t1f _ _ (by omega), t4f _ _ (by omega)]; exact tf _ _ (by omega)
    rw [e_HallReader_readCry_91]
    simp (disch := first | assumption | omega) only [rn, wk, al, wr_e, td_e, tm_e, mset_eq, mset_ne, if_pos, if_neg, Int.reduceAdd, Int.reduceSub, Int.reduceMul, Int.reduceNeg, Int.reduceLT, Int.reduceLE, Int.reduceEq, Int.cast_ofNat_Int, eq_self, and_true, true_and, ite_self, true_or, or_true, false_or, or_false, and_false, false_and, not_true_eq_false, not_false_eq_true, if_true, if_false, e_HallReader_readCry_0, e_HallReader_readCry_13, e_HallReader_readCry_33, e_HallReader_readCry_48, e_HallReader_readCry_74, e_HallReader_readCry_75, e_HallReader_readCry_89, e_HallReader_readCry_91, e_HallReader_readCry_117, e_HallReader_readCry_124, qa]
    refine EV_call (CV_mono (q_closeHere (d + 3) a1 k4 c4) ?_)
    intro r2 t5 h5
    have h01 := CkP01 h5
    have hfin : PX (D + 7) 254 T n p s r2 t5 := PX_fin (fun c i a b e => tot c i (by omega) e) ⟨tot _ _ (by omega) (by omega), tot _ _ (by omega) (by omega)⟩ (by omega) c1 (hA t1 (fun c i h => t1f c i (by omega))) h5
    simp (disch := first | assumption | omega) only [rn, wk, al, wr_e, td_e, tm_e, mset_eq, mset_ne, if_pos, if_neg, Int.reduceAdd, Int.reduceSub, Int.reduceMul, Int.reduceNeg, Int.reduceLT, Int.reduceLE, Int.reduceEq, Int.cast_ofNat_Int, eq_self, and_true, true_and, ite_self, true_or, or_true, false_or, or_false, and_false, false_and, not_true_eq_false, not_false_eq_true, if_true, if_false, e_HallReader_readCry_0, e_HallReader_readCry_13, e_HallReader_readCry_33, e_HallReader_readCry_48, e_HallReader_readCry_74, e_HallReader_readCry_75, e_HallReader_readCry_89, e_HallReader_readCry_91, e_HallReader_readCry_117, e_HallReader_readCry_124]
    exact hfin
  apply c_HallReader_readCry
  have hpn1 := q_callerNext (d + 1) hT hs (by omega)
  rw [← hk1] at hpn1
  simp (disch := first | assumption | omega) only [rn, wk, al, wr_e, td_e, tm_e, mset_eq, mset_ne, if_pos, if_neg, Int.reduceAdd, Int.reduceSub, Int.reduceMul, Int.reduceNeg, Int.reduceLT, Int.reduceLE, Int.reduceEq, Int.cast_ofNat_Int, eq_self, and_true, true_and, ite_self, true_or, or_true, false_or, or_false, and_false, false_and, not_true_eq_false, not_false_eq_true, if_true, if_false, e_HallReader_readCry_0, e_HallReader_readCry_13, e_HallReader_readCry_33, e_HallReader_readCry_48, e_HallReader_readCry_74, e_HallReader_readCry_75, e_HallReader_readCry_89, e_HallReader_readCry_117, e_HallReader_readCry_124]
  refine EV_call (CV_mono hpn1 ?_)
  rintro r t1 (⟨e, ne1, on1, f1, kk1, cc1⟩ | ⟨e, f1, g9, g⟩)
  · rw [← h2] at cc1
    subst e
    have kb : 0 ≤ r ∧ r < s 57 4 := by omega
    obtain ⟨l1, -, -⟩ := HPu_l hv r kb
    have tc : t1 64 r = s 64 r := f1 _ _ (by omega)
    by_cases c3 : s 64 r = 3
    · have q6 := q_Trefuse (d + 4) t1 6 kk1
      have hp2 : PX (D + 7) 254 T n p s 0 (mset (mset t1 7 8 (flt T n p1 6)) 7 9 (tkq T n p1)) := PX_no (Ftf_r f1) (by rw [mset_ne (by omega), mset_eq rfl rfl]) (mset_eq rfl rfl) (flt_p (by omega)) (no _ _ (fun u r w h => h.2.2.1 on1 ne1 c3))
      rw [c3] at tc
      simp (disch := first | assumption | omega) only [rn, wk, al, wr_e, td_e, tm_e, mset_eq, mset_ne, if_pos, if_neg, Int.reduceAdd, Int.reduceSub, Int.reduceMul, Int.reduceNeg, Int.reduceLT, Int.reduceLE, Int.reduceEq, Int.cast_ofNat_Int, eq_self, and_true, true_and, ite_self, true_or, or_true, false_or, or_false, and_false, false_and, not_true_eq_false, not_false_eq_true, if_true, if_false, e_HallReader_readCry_0, e_HallReader_readCry_13, e_HallReader_readCry_33, e_HallReader_readCry_48, e_HallReader_readCry_74, e_HallReader_readCry_75, e_HallReader_readCry_89, e_HallReader_readCry_117, e_HallReader_readCry_124, ne1, tc, q6]
      exact hp2
    · simp (disch := first | assumption | omega) only [rn, wk, al, wr_e, td_e, tm_e, mset_eq, mset_ne, if_pos, if_neg, Int.reduceAdd, Int.reduceSub, Int.reduceMul, Int.reduceNeg, Int.reduceLT, Int.reduceLE, Int.reduceEq, Int.cast_ofNat_Int, eq_self, and_true, true_and, ite_self, true_or, or_true, false_or, or_false, and_false, false_and, not_true_eq_false, not_false_eq_true, if_true, if_false, e_HallReader_readCry_0, e_HallReader_readCry_13, e_HallReader_readCry_33, e_HallReader_readCry_48, e_HallReader_readCry_74, e_HallReader_readCry_75, e_HallReader_readCry_89, e_HallReader_readCry_117, e_HallReader_readCry_124, ne1, tc]
      refine EV_call (CV_mono (q_numberNext (d + 2) hT cc1 1 99) ?_)
      rintro r2 t2 (⟨e, ok2, f2, kk2, cc2⟩ | ⟨e, nok, f2, g8, g9⟩)
      · subst e
        rw [← h3] at cc2
        have g6 : t2 7 6 = dvT T n p2 := kk2.2.2.2.2.2.1 ok2.1
        have t2f : ∀ c i, ¬ (c = 7 ∧ 3 ≤ i ∧ i ≤ 7) → t2 c i = s c i := fun c i x => by rw [f2 c i x, f1 c i x]
        simp (disch := first | assumption | omega) only [rn, wk, al, wr_e, td_e, tm_e, mset_eq, mset_ne, if_pos, if_neg, Int.reduceAdd, Int.reduceSub, Int.reduceMul, Int.reduceNeg, Int.reduceLT, Int.reduceLE, Int.reduceEq, Int.cast_ofNat_Int, eq_self, and_true, true_and, ite_self, true_or, or_true, false_or, or_false, and_false, false_and, not_true_eq_false, not_false_eq_true, if_true, if_false, e_HallReader_readCry_0, e_HallReader_readCry_13, e_HallReader_readCry_33, e_HallReader_readCry_48, e_HallReader_readCry_74, e_HallReader_readCry_75, e_HallReader_readCry_89, e_HallReader_readCry_117, e_HallReader_readCry_124, g6]
        refine EV_call (CV_mono (q_perhaps (d + 2) hT cc2) ?_)
        rintro r3 t3 (⟨n2, e, f3, kk3, cc3⟩ | ⟨y2, ok3, e, f3, kk3, cc3⟩ | ⟨y2, nok3, e, f3, g8, g9⟩)
        · subst e
          have hx := here t3 p3 (dvT T n p2) 0 ne1 c3 (fun c i x => by rw [f3 c i x, t2f c i x]) kk3 cc3 (by omega) ok2.2 (by omega) (fun u0 u hu => CV_mono (r_cry D h1 h2 h3 h4 h5 hT hu hk1) (fun r' w h => h.2.2.2.2.1 on1 ne1 c3 ok2 n2))
          simp (disch := first | assumption | omega) only [rn, wk, al, wr_e, td_e, tm_e, mset_eq, mset_ne, if_pos, if_neg, Int.reduceAdd, Int.reduceSub, Int.reduceMul, Int.reduceNeg, Int.reduceLT, Int.reduceLE, Int.reduceEq, Int.cast_ofNat_Int, eq_self, and_true, true_and, ite_self, true_or, or_true, false_or, or_false, and_false, false_and, not_true_eq_false, not_false_eq_true, if_true, if_false, e_HallReader_readCry_0, e_HallReader_readCry_13, e_HallReader_readCry_33, e_HallReader_readCry_48, e_HallReader_readCry_74, e_HallReader_readCry_75, e_HallReader_readCry_89, e_HallReader_readCry_117, e_HallReader_readCry_124]
          exact hx
        · rw [← h4] at cc3
          have d3 := ok3.2
          subst e
          have t3f : ∀ c i, ¬ (c = 7 ∧ 3 ≤ i ∧ i ≤ 7) → t3 c i = s c i := fun c i x => by rw [f3 c i x, t2f c i x]
          simp (disch := first | assumption | omega) only [rn, wk, al, wr_e, td_e, tm_e, mset_eq, mset_ne, if_pos, if_neg, Int.reduceAdd, Int.reduceSub, Int.reduceMul, Int.reduceNeg, Int.reduceLT, Int.reduceLE, Int.reduceEq, Int.cast_ofNat_Int, eq_self, and_true, true_and, ite_self, true_or, or_true, false_or, or_false, and_false, false_and, not_true_eq_false, not_false_eq_true, if_true, if_false, e_HallReader_readCry_0, e_HallReader_readCry_13, e_HallReader_readCry_33, e_HallReader_readCry_48, e_HallReader_readCry_74, e_HallReader_readCry_75, e_HallReader_readCry_89, e_HallReader_readCry_117, e_HallReader_readCry_124]
          refine EV_call (CV_mono (q_perhaps (d + 2) hT cc3) ?_)
          rintro r4 t4 (⟨n4, e, f4, kk4, cc4⟩ | ⟨y4, ok4, e, f4, kk4, cc4⟩ | ⟨y4, nok4, e, f4, g8, g9⟩)
          · subst e
            have hx := here t4 p4 (dvT T n p2) (dvT T n p3) ne1 c3 (fun c i x => by rw [f4 c i x, t3f c i x]) kk4 cc4 (by omega) ok2.2 (by omega) (fun u0 u hu => CV_mono (r_cry D h1 h2 h3 h4 h5 hT hu hk1) (fun r' w h => h.2.2.2.2.2.2.1 on1 ne1 c3 ok2 y2 ok3 n4))
            simp (disch := first | assumption | omega) only [rn, wk, al, wr_e, td_e, tm_e, mset_eq, mset_ne, if_pos, if_neg, Int.reduceAdd, Int.reduceSub, Int.reduceMul, Int.reduceNeg, Int.reduceLT, Int.reduceLE, Int.reduceEq, Int.cast_ofNat_Int, eq_self, and_true, true_and, ite_self, true_or, or_true, false_or, or_false, and_false, false_and, not_true_eq_false, not_false_eq_true, if_true, if_false, e_HallReader_readCry_0, e_HallReader_readCry_13, e_HallReader_readCry_33, e_HallReader_readCry_48, e_HallReader_readCry_74, e_HallReader_readCry_75, e_HallReader_readCry_89, e_HallReader_readCry_117, e_HallReader_readCry_124]
            exact hx
          · rw [← h5] at cc4
            have d4 := ok4.2
            subst e
            have t4f : ∀ c i, ¬ (c = 7 ∧ 3 ≤ i ∧ i ≤ 7) → t4 c i = s c i := fun c i x => by rw [f4 c i x, t3f c i x]
            obtain ⟨t5, qa, t5f, hA⟩ := put t4 p5 (dvT T n p2) (dvT T n p3) (dvT T n p4) ne1 c3 t4f ok2.2 (by omega) (by omega) (fun u0 u hu => CV_mono (r_cry D h1 h2 h3 h4 h5 hT hu hk1) (fun r' w h => h.2.2.2.2.2.2.2.2 on1 ne1 c3 ok2 y2 ok3 y4 ok4))
            have c5 : Cs T n p5 t5 := Cs_f (fun c i h => t5f c i (by omega)) cc4
            simp (disch := first | assumption | omega) only [rn, wk, al, wr_e, td_e, tm_e, mset_eq, mset_ne, if_pos, if_neg, Int.reduceAdd, Int.reduceSub, Int.reduceMul, Int.reduceNeg, Int.reduceLT, Int.reduceLE, Int.reduceEq, Int.cast_ofNat_Int, eq_self, and_true, true_and, ite_self, true_or, or_true, false_or, or_false, and_false, false_and, not_true_eq_false, not_false_eq_true, if_true, if_false, e_HallReader_readCry_0, e_HallReader_readCry_13, e_HallReader_readCry_33, e_HallReader_readCry_48, e_HallReader_readCry_74, e_HallReader_readCry_75, e_HallReader_readCry_89, e_HallReader_readCry_91, e_HallReader_readCry_117, e_HallReader_readCry_124, qa]
            refine EV_call (CV_mono (q_closeNext (d + 2) hT c5) ?_)
            intro r6 t6 h6
            have h01 := CkP01 h6
            have hfin : PX (D + 7) 254 T n p s r6 t6 := PX_fin (fun c i a b e => by rw [t5f c i e]; exact t4f c i (by omega)) ⟨by rw [t5f _ _ (by omega)]; exact t4f _ _ (by omega), by rw [t5f _ _ (by omega)]; exact t4f _ _ (by omega)⟩ (by omega) c5 (hA t5 (fun _ _ _ => rfl)) h6
            simp (disch := first | assumption | omega) only [rn, wk, al, wr_e, td_e, tm_e, mset_eq, mset_ne, if_pos, if_neg, Int.reduceAdd, Int.reduceSub, Int.reduceMul, Int.reduceNeg, Int.reduceLT, Int.reduceLE, Int.reduceEq, Int.cast_ofNat_Int, eq_self, and_true, true_and, ite_self, true_or, or_true, false_or, or_false, and_false, false_and, not_true_eq_false, not_false_eq_true, if_true, if_false, e_HallReader_readCry_0, e_HallReader_readCry_13, e_HallReader_readCry_33, e_HallReader_readCry_48, e_HallReader_readCry_74, e_HallReader_readCry_75, e_HallReader_readCry_89, e_HallReader_readCry_91, e_HallReader_readCry_117, e_HallReader_readCry_124]
            exact hfin
          · subst e
            have hp2 : PX (D + 7) 254 T n p s 0 t4 := PX_no (fun c i x => by rw [f4 c i x]; exact t3f c i (by omega)) g8 g9 (flt_p nF_p) (no _ _ (fun u r w h => h.2.2.2.2.2.2.2.1 on1 ne1 c3 ok2 y2 ok3 y4 nok4))
            simp (disch := first | assumption | omega) only [rn, wk, al, wr_e, td_e, tm_e, mset_eq, mset_ne, if_pos, if_neg, Int.reduceAdd, Int.reduceSub, Int.reduceMul, Int.reduceNeg, Int.reduceLT, Int.reduceLE, Int.reduceEq, Int.cast_ofNat_Int, eq_self, and_true, true_and, ite_self, true_or, or_true, false_or, or_false, and_false, false_and, not_true_eq_false, not_false_eq_true, if_true, if_false, e_HallReader_readCry_0, e_HallReader_readCry_13, e_HallReader_readCry_33, e_HallReader_readCry_48, e_HallReader_readCry_74, e_HallReader_readCry_75, e_HallReader_readCry_89, e_HallReader_readCry_117, e_HallReader_readCry_124]
            exact hp2
        · subst e
          have hp2 : PX (D + 7) 254 T n p s 0 t3 := PX_no (fun c i x => by rw [f3 c i x]; exact t2f c i (by omega)) g8 g9 (flt_p nF_p) (no _ _ (fun u r w h => h.2.2.2.2.2.1 on1 ne1 c3 ok2 y2 nok3))
          simp (disch := first | assumption | omega) only [rn, wk, al, wr_e, td_e, tm_e, mset_eq, mset_ne, if_pos, if_neg, Int.reduceAdd, Int.reduceSub, Int.reduceMul, Int.reduceNeg, Int.reduceLT, Int.reduceLE, Int.reduceEq, Int.cast_ofNat_Int, eq_self, and_true, true_and, ite_self, true_or, or_true, false_or, or_false, and_false, false_and, not_true_eq_false, not_false_eq_true, if_true, if_false, e_HallReader_readCry_0, e_HallReader_readCry_13, e_HallReader_readCry_33, e_HallReader_readCry_48, e_HallReader_readCry_74, e_HallReader_readCry_75, e_HallReader_readCry_89, e_HallReader_readCry_117, e_HallReader_readCry_124]
          exact hp2
      · subst e
        have hp2 : PX (D + 7) 254 T n p s 0 t2 := PX_no (fun c i x => by rw [f2 c i x]; exact f1 c i (by omega)) g8 g9 (flt_p nF_p) (no _ _ (fun u r w h => h.2.2.2.1 on1 ne1 c3 nok))
        simp (disch := first | assumption | omega) only [rn, wk, al, wr_e, td_e, tm_e, mset_eq, mset_ne, if_pos, if_neg, Int.reduceAdd, Int.reduceSub, Int.reduceMul, Int.reduceNeg, Int.reduceLT, Int.reduceLE, Int.reduceEq, Int.cast_ofNat_Int, eq_self, and_true, true_and, ite_self, true_or, or_true, false_or, or_false, and_false, false_and, not_true_eq_false, not_false_eq_true, if_true, if_false, e_HallReader_readCry_0, e_HallReader_readCry_13, e_HallReader_readCry_33, e_HallReader_readCry_48, e_HallReader_readCry_74, e_HallReader_readCry_75, e_HallReader_readCry_89, e_HallReader_readCry_117, e_HallReader_readCry_124]
        exact hp2
  · subst e
    have hp2 : PX (D + 7) 254 T n p s 0 t1 := by
      rcases g with ⟨nok, g8⟩ | ⟨ok, en, g8⟩
      · exact PX_no f1 g8 g9 (flt_p (by omega)) (no _ _ (fun u r w h => h.1 nok))
      · exact PX_no f1 g8 g9 (flt_p (by omega)) (no _ _ (fun u r w h => h.2.1 ok en))
    simp (disch := first | assumption | omega) only [rn, wk, al, wr_e, td_e, tm_e, mset_eq, mset_ne, if_pos, if_neg, Int.reduceAdd, Int.reduceSub, Int.reduceMul, Int.reduceNeg, Int.reduceLT, Int.reduceLE, Int.reduceEq, Int.cast_ofNat_Int, eq_self, and_true, true_and, ite_self, true_or, or_true, false_or, or_false, and_false, false_and, not_true_eq_false, not_false_eq_true, if_true, if_false, e_HallReader_readCry_0, e_HallReader_readCry_13, e_HallReader_readCry_33, e_HallReader_readCry_48, e_HallReader_readCry_74, e_HallReader_readCry_75, e_HallReader_readCry_89, e_HallReader_readCry_117, e_HallReader_readCry_124]
    exact hp2
