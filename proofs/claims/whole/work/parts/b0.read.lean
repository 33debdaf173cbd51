/-! ===== H2: hall, slates and callers of both readers ===== -/
theorem r_newPlaceTo (d : Nat) {T : Int → Int} {n p : Int} (hT : TX T n) {s u : Mem} (hu : Rs_ T n p u) (hc : u 138 3472 = s 57 1) (hb : 0 ≤ s 57 1 ∧ s 57 1 ≤ 7) (to : Int) (hto : 0 ≤ to ∧ to < 5208) : CV (d + 5) 247 [137, to] u (OkP T n p u 64 (s 57 1) to) := by
  apply c_R_newPlaceTo
  simp (disch := first | assumption | omega) only [rn, wk, al, wr_e, td_e, tm_e, mset_eq, mset_ne, if_pos, if_neg, Int.reduceAdd, Int.reduceSub, Int.reduceMul, Int.reduceNeg, Int.reduceLT, Int.reduceLE, Int.reduceEq, Int.cast_ofNat_Int, eq_self, and_true, true_and, ite_self, true_or, or_true, false_or, or_false, and_false, false_and, not_true_eq_false, not_false_eq_true, if_true, if_false, e_R_newPlaceTo_0, hc]
  refine EV_call (CV_mono (r_oldOne d hT hu 64 (s 57 1) to (by omega) (by omega) (by omega) hto) ?_)
  intro r w h
  have h01 : r = 0 ∨ r = 1 := by
    rcases h with ⟨e, -⟩ | ⟨e, -⟩
    · exact Or.inr e
    · exact Or.inl e
  simp (disch := first | assumption | omega) only [rn, wk, al, wr_e, td_e, tm_e, mset_eq, mset_ne, if_pos, if_neg, Int.reduceAdd, Int.reduceSub, Int.reduceMul, Int.reduceNeg, Int.reduceLT, Int.reduceLE, Int.reduceEq, Int.cast_ofNat_Int, eq_self, and_true, true_and, ite_self, true_or, or_true, false_or, or_false, and_false, false_and, not_true_eq_false, not_false_eq_true, if_true, if_false, e_R_newPlaceTo_0]
  exact h
theorem pm_6 : (9 : Int) = pm 6 := rfl
/-- a thing with a new name at a place, in the reference -/
def SlP (T : Int → Int) (n p p1 p2 p3 : Int) (tk : Prop) (k3 : Int) (u : Mem) (c0 most so to ci : Int) (r : Int) (w : Mem) : Prop :=
  (c0 = most ∧ NoR u (flt T n p 6) (tkq T n p) r w) ∨ (c0 ≠ most ∧ ((¬ isNm T n p1 ∧ NoR u (flt T n p1 2) (tkq T n p1) r w) ∨ (isNm T n p1 ∧ tk ∧ NoR u (flt T n p1 3) (tkq T n p1) r w) ∨ (isNm T n p1 ∧ ¬ tk ∧ ((¬ wOk T n p2 6 ∧ NoR u (flt T n p2 2) (tkq T n p2) r w) ∨ (wOk T n p2 6 ∧ ((¬ isNm T n p3 ∧ NoR u (flt T n p3 2) (tkq T n p3) r w) ∨ (isNm T n p3 ∧ k3 = -1 ∧ NoR u (flt T n p3 3) (tkq T n p3) r w) ∨ (isNm T n p3 ∧ k3 ≠ -1 ∧ r = 1 ∧ (∀ c i, ¬ (c = 137 ∧ 12 ≤ i ∧ i ≤ 15) → ¬ (c = 139 ∧ i = 64 + so + c0) → ¬ (c = 138 ∧ (i = to ∨ i = ci)) → w c i = u c i) ∧ w 139 (64 + so + c0) = nmT T n p1 ∧ w 138 to = k3 ∧ w 138 ci = c0 + 1 ∧ Rs_ T n (tke T n p3) w)))))))
theorem r_slate (D : Nat) {T : Int → Int} {n p p1 p2 p3 : Int} (h1 : p1 = tke T n p) (h2 : p2 = tke T n p1) (h3 : p3 = tke T n p2) (hT : TX T n) {s u0 u : Mem} (hu : RlH T n s u0 u p) : CV (D + 7) 251 [137] u (SlP T n p p1 p2 p3 (tkn (s 58) (nmT T n p1) (s 57 1) (s 57 3) (s 57 4)) (ixa (s 58) (nmT T n p3) 0 (s 57 1)) u (s 57 3) 4 7 (3522 + s 57 3) 3474) := by
  obtain ⟨hp, hr, -, -⟩ := hu
  obtain ⟨c0, k1, k2, k3, k4, k5, k0⟩ := HPu_c hp
  have hnew := r_newOne (D + 1) hT hr hp 2 4 7 (s 57 3) (by omega) (by exact k3) (by omega) (by omega) (by omega)
  apply c_R_aSlate
  simp (disch := first | assumption | omega) only [rn, wk, al, wr_e, td_e, tm_e, mset_eq, mset_ne, if_pos, if_neg, Int.reduceAdd, Int.reduceSub, Int.reduceMul, Int.reduceNeg, Int.reduceLT, Int.reduceLE, Int.reduceEq, Int.cast_ofNat_Int, eq_self, and_true, true_and, ite_self, true_or, or_true, false_or, or_false, and_false, false_and, not_true_eq_false, not_false_eq_true, if_true, if_false, e_R_aSlate_0, e_R_aSlate_41, e_R_aSlate_43]
  refine EV_call (CV_mono hnew ?_)
  intro r w hw
  unfold NwP at hw
  rw [← h1, ← h2] at hw
  rcases hw with ⟨a, h⟩ | ⟨a, ⟨b, h⟩ | ⟨b, c, h⟩ | ⟨b, c, e, w1, w2, w3⟩⟩
  · have hq : SlP T n p p1 p2 p3 (tkn (s 58) (nmT T n p1) (s 57 1) (s 57 3) (s 57 4)) (ixa (s 58) (nmT T n p3) 0 (s 57 1)) u (s 57 3) 4 7 (3522 + s 57 3) 3474 r w := Or.inl ⟨a, h⟩
    obtain ⟨e, -⟩ := id h
    subst e
    simp (disch := first | assumption | omega) only [rn, wk, al, wr_e, td_e, tm_e, mset_eq, mset_ne, if_pos, if_neg, Int.reduceAdd, Int.reduceSub, Int.reduceMul, Int.reduceNeg, Int.reduceLT, Int.reduceLE, Int.reduceEq, Int.cast_ofNat_Int, eq_self, and_true, true_and, ite_self, true_or, or_true, false_or, or_false, and_false, false_and, not_true_eq_false, not_false_eq_true, if_true, if_false, e_R_aSlate_0, e_R_aSlate_41, e_R_aSlate_43]
    exact hq
  · have hq : SlP T n p p1 p2 p3 (tkn (s 58) (nmT T n p1) (s 57 1) (s 57 3) (s 57 4)) (ixa (s 58) (nmT T n p3) 0 (s 57 1)) u (s 57 3) 4 7 (3522 + s 57 3) 3474 r w := Or.inr ⟨a, Or.inl ⟨b, h⟩⟩
    obtain ⟨e, -⟩ := id h
    subst e
    simp (disch := first | assumption | omega) only [rn, wk, al, wr_e, td_e, tm_e, mset_eq, mset_ne, if_pos, if_neg, Int.reduceAdd, Int.reduceSub, Int.reduceMul, Int.reduceNeg, Int.reduceLT, Int.reduceLE, Int.reduceEq, Int.cast_ofNat_Int, eq_self, and_true, true_and, ite_self, true_or, or_true, false_or, or_false, and_false, false_and, not_true_eq_false, not_false_eq_true, if_true, if_false, e_R_aSlate_0, e_R_aSlate_41, e_R_aSlate_43]
    exact hq
  · have hq : SlP T n p p1 p2 p3 (tkn (s 58) (nmT T n p1) (s 57 1) (s 57 3) (s 57 4)) (ixa (s 58) (nmT T n p3) 0 (s 57 1)) u (s 57 3) 4 7 (3522 + s 57 3) 3474 r w := Or.inr ⟨a, Or.inr (Or.inl ⟨b, c, h⟩)⟩
    obtain ⟨e, -⟩ := id h
    subst e
    simp (disch := first | assumption | omega) only [rn, wk, al, wr_e, td_e, tm_e, mset_eq, mset_ne, if_pos, if_neg, Int.reduceAdd, Int.reduceSub, Int.reduceMul, Int.reduceNeg, Int.reduceLT, Int.reduceLE, Int.reduceEq, Int.cast_ofNat_Int, eq_self, and_true, true_and, ite_self, true_or, or_true, false_or, or_false, and_false, false_and, not_true_eq_false, not_false_eq_true, if_true, if_false, e_R_aSlate_0, e_R_aSlate_41, e_R_aSlate_43]
    exact hq
  · subst e
    simp (disch := first | assumption | omega) only [rn, wk, al, wr_e, td_e, tm_e, mset_eq, mset_ne, if_pos, if_neg, Int.reduceAdd, Int.reduceSub, Int.reduceMul, Int.reduceNeg, Int.reduceLT, Int.reduceLE, Int.reduceEq, Int.cast_ofNat_Int, eq_self, and_true, true_and, ite_self, true_or, or_true, false_or, or_false, and_false, false_and, not_true_eq_false, not_false_eq_true, if_true, if_false]
    refine EV_call (CV_mono (r_wantWord (D + 3) hT w3 6 9 (by omega) pm_6) ?_)
    rintro r v (⟨e, ok, f, v1⟩ | ⟨e, nok, f, g8, g9⟩)
    · subst e
      rw [← h3] at v1
      have vf : ∀ c i, ¬ (c = 137 ∧ 12 ≤ i ∧ i ≤ 15) → ¬ (c = 139 ∧ i = 64 + 7 + s 57 3) → v c i = u c i := fun c i x y => by rw [f c i x, w1 c i x y]
      have v0 : v 138 3474 = s 57 3 := by rw [vf _ _ (by omega) (by omega)]; exact k3
      simp (disch := first | assumption | omega) only [rn, wk, al, wr_e, td_e, tm_e, mset_eq, mset_ne, if_pos, if_neg, Int.reduceAdd, Int.reduceSub, Int.reduceMul, Int.reduceNeg, Int.reduceLT, Int.reduceLE, Int.reduceEq, Int.cast_ofNat_Int, eq_self, and_true, true_and, ite_self, true_or, or_true, false_or, or_false, and_false, false_and, not_true_eq_false, not_false_eq_true, if_true, if_false, v0]
      refine EV_call (CV_mono (r_newPlaceTo (D + 1) hT v1 (s := s) (by rw [vf _ _ (by omega) (by omega)]; exact k1) (by omega) (3522 + s 57 3) (by omega)) ?_)
      have en : ixa (v 139) (nmT T n p3) 64 (s 57 1) = ixa (s 58) (nmT T n p3) 0 (s 57 1) := by
        rw [← (HPu_n hp (nmT T n p3)).1]
        exact ixa_congr (by omega) (fun i x y => vf _ _ (by omega) (by omega))
      rintro r x h
      unfold OkP at h
      rw [en] at h
      rcases h with ⟨e, on, ne, xf, xv, xr⟩ | ⟨e, xf, x17, ⟨on, x18⟩ | ⟨on, en2, x18⟩⟩
      · subst e
        have x0 : x 138 3474 = s 57 3 := by rw [xf _ _ (by omega) (by omega)]; exact v0
        obtain ⟨z, hz⟩ : ∃ z, z = mset x 138 3474 (s 57 3 + 1) := ⟨_, rfl⟩
        have zf : ∀ c i, ¬ (c = 138 ∧ i = 3474) → z c i = x c i := fun c i h => by rw [hz, mset_ne (by omega)]
        have hq : SlP T n p p1 p2 p3 (tkn (s 58) (nmT T n p1) (s 57 1) (s 57 3) (s 57 4)) (ixa (s 58) (nmT T n p3) 0 (s 57 1)) u (s 57 3) 4 7 (3522 + s 57 3) 3474 1 z := Or.inr ⟨a, Or.inr (Or.inr ⟨b, c, Or.inr ⟨ok, Or.inr (Or.inr ⟨on, ne, rfl, fun c i y1 y2 y3 => by rw [zf c i (by omega), xf c i y1 (by omega)]; exact vf c i y1 y2, by rw [zf _ _ (by omega), xf _ _ (by omega) (by omega), f _ _ (by omega)]; exact w2, by rw [zf _ _ (by omega)]; exact xv, by rw [hz, mset_eq rfl rfl], Rs_w (fun i _ => zf _ _ (by omega)) (fun i => zf _ _ (by omega)) xr⟩)⟩⟩)⟩
        simp (disch := first | assumption | omega) only [rn, wk, al, wr_e, td_e, tm_e, mset_eq, mset_ne, if_pos, if_neg, Int.reduceAdd, Int.reduceSub, Int.reduceMul, Int.reduceNeg, Int.reduceLT, Int.reduceLE, Int.reduceEq, Int.cast_ofNat_Int, eq_self, and_true, true_and, ite_self, true_or, or_true, false_or, or_false, and_false, false_and, not_true_eq_false, not_false_eq_true, if_true, if_false, e_R_aSlate_0, e_R_aSlate_41, e_R_aSlate_43, x0, ← hz]
        exact hq
      · subst e
        have hq : SlP T n p p1 p2 p3 (tkn (s 58) (nmT T n p1) (s 57 1) (s 57 3) (s 57 4)) (ixa (s 58) (nmT T n p3) 0 (s 57 1)) u (s 57 3) 4 7 (3522 + s 57 3) 3474 0 x := Or.inr ⟨a, Or.inr (Or.inr ⟨b, c, Or.inr ⟨ok, Or.inl ⟨on, rfl, fun c i y1 y2 y3 => by rw [xf c i (by omega) (by omega)]; exact vf c i (by omega) (by omega), x18, x17⟩⟩⟩)⟩
        simp (disch := first | assumption | omega) only [rn, wk, al, wr_e, td_e, tm_e, mset_eq, mset_ne, if_pos, if_neg, Int.reduceAdd, Int.reduceSub, Int.reduceMul, Int.reduceNeg, Int.reduceLT, Int.reduceLE, Int.reduceEq, Int.cast_ofNat_Int, eq_self, and_true, true_and, ite_self, true_or, or_true, false_or, or_false, and_false, false_and, not_true_eq_false, not_false_eq_true, if_true, if_false, e_R_aSlate_0, e_R_aSlate_41, e_R_aSlate_43]
        exact hq
      · subst e
        have hq : SlP T n p p1 p2 p3 (tkn (s 58) (nmT T n p1) (s 57 1) (s 57 3) (s 57 4)) (ixa (s 58) (nmT T n p3) 0 (s 57 1)) u (s 57 3) 4 7 (3522 + s 57 3) 3474 0 x := Or.inr ⟨a, Or.inr (Or.inr ⟨b, c, Or.inr ⟨ok, Or.inr (Or.inl ⟨on, en2, rfl, fun c i y1 y2 y3 => by rw [xf c i (by omega) (by omega)]; exact vf c i (by omega) (by omega), x18, x17⟩)⟩⟩)⟩
        simp (disch := first | assumption | omega) only [rn, wk, al, wr_e, td_e, tm_e, mset_eq, mset_ne, if_pos, if_neg, Int.reduceAdd, Int.reduceSub, Int.reduceMul, Int.reduceNeg, Int.reduceLT, Int.reduceLE, Int.reduceEq, Int.cast_ofNat_Int, eq_self, and_true, true_and, ite_self, true_or, or_true, false_or, or_false, and_false, false_and, not_true_eq_false, not_false_eq_true, if_true, if_false, e_R_aSlate_0, e_R_aSlate_41, e_R_aSlate_43]
        exact hq
    · subst e
      have hq : SlP T n p p1 p2 p3 (tkn (s 58) (nmT T n p1) (s 57 1) (s 57 3) (s 57 4)) (ixa (s 58) (nmT T n p3) 0 (s 57 1)) u (s 57 3) 4 7 (3522 + s 57 3) 3474 0 v := Or.inr ⟨a, Or.inr (Or.inr ⟨b, c, Or.inl ⟨nok, rfl, fun c i y1 y2 y3 => by rw [f c i (by omega)]; exact w1 c i (by omega) (by omega), g8, g9⟩⟩)⟩
      simp (disch := first | assumption | omega) only [rn, wk, al, wr_e, td_e, tm_e, mset_eq, mset_ne, if_pos, if_neg, Int.reduceAdd, Int.reduceSub, Int.reduceMul, Int.reduceNeg, Int.reduceLT, Int.reduceLE, Int.reduceEq, Int.cast_ofNat_Int, eq_self, and_true, true_and, ite_self, true_or, or_true, false_or, or_false, and_false, false_and, not_true_eq_false, not_false_eq_true, if_true, if_false, e_R_aSlate_0, e_R_aSlate_41, e_R_aSlate_43]
      exact hq
theorem x_slate (d D : Nat) {T : Int → Int} {n p : Int} (hT : TX T n) {s : Mem} (hp : 0 ≤ p ∧ p ≤ n) (hk : TkC T n p s) (hs : Cs T n (tke T n p) s) (hV : ∃ u, HPu s u) : CV (d + 6) 55 [9, 57] s (PX (D + 7) 251 T n p s) := by
  obtain ⟨v, hv⟩ := hV
  obtain ⟨c0, -⟩ := HPu_c hv
  obtain ⟨p1, h1⟩ : ∃ p1, p1 = tke T n p := ⟨_, rfl⟩
  obtain ⟨p2, h2⟩ : ∃ p2, p2 = tke T n p1 := ⟨_, rfl⟩
  obtain ⟨p3, h3⟩ : ∃ p3, p3 = tke T n p2 := ⟨_, rfl⟩
  rw [← h1] at hs
  obtain ⟨tb1, tb2, -⟩ := tke_b (T := T) hp
  obtain ⟨ub1, ub2, -⟩ := tke_b (T := T) hs.1
  have hs1 := hs.1
  obtain ⟨vb1, vb2, -⟩ := tke_b (T := T) (n := n) (p := p2) (by omega)
  obtain ⟨wb1, wb2, -⟩ := tke_b (T := T) (n := n) (p := p3) (by omega)
  have no : ∀ k f, (∀ u r w, SlP T n p p1 p2 p3 (tkn (s 58) (nmT T n p1) (s 57 1) (s 57 3) (s 57 4)) (ixa (s 58) (nmT T n p3) 0 (s 57 1)) u (s 57 3) 4 7 (3522 + s 57 3) 3474 r w → NoR u k f r w) → ANo (D + 7) 251 T n s p k f := fun k f h u0 u hu => CV_mono (r_slate D h1 h2 h3 hT hu) (fun r w hw => NoR_u hu.2.2.2 (h u r w hw))
  apply c_HallReader_readSlate
  by_cases c7 : s 57 3 = 4
  · have q6 := q_Trefuse (d + 4) s 6 hk
    have hp2 : PX (D + 7) 251 T n p s 0 (mset (mset s 7 8 (flt T n p 6)) 7 9 (tkq T n p)) := PX_no (Ftf_r (fun _ _ _ => rfl)) (by rw [mset_ne (by omega), mset_eq rfl rfl]) (mset_eq rfl rfl) (flt_p (by omega)) (no _ _ (fun u r w h => by
      rcases h with ⟨a, h⟩ | ⟨a, -⟩
      · exact h
      · contradiction))
    simp (disch := first | assumption | omega) only [rn, wk, al, wr_e, td_e, tm_e, mset_eq, mset_ne, if_pos, if_neg, Int.reduceAdd, Int.reduceSub, Int.reduceMul, Int.reduceNeg, Int.reduceLT, Int.reduceLE, Int.reduceEq, Int.cast_ofNat_Int, eq_self, and_true, true_and, ite_self, true_or, or_true, false_or, or_false, and_false, false_and, not_true_eq_false, not_false_eq_true, if_true, if_false, e_HallReader_readSlate_0, e_HallReader_readSlate_18, e_HallReader_readSlate_28, e_HallReader_readSlate_56, e_HallReader_readSlate_57, e_HallReader_readSlate_67, c7, q6]
    exact hp2
  · simp (disch := first | assumption | omega) only [rn, wk, al, wr_e, td_e, tm_e, mset_eq, mset_ne, if_pos, if_neg, Int.reduceAdd, Int.reduceSub, Int.reduceMul, Int.reduceNeg, Int.reduceLT, Int.reduceLE, Int.reduceEq, Int.cast_ofNat_Int, eq_self, and_true, true_and, ite_self, true_or, or_true, false_or, or_false, and_false, false_and, not_true_eq_false, not_false_eq_true, if_true, if_false, e_HallReader_readSlate_0, e_HallReader_readSlate_18, e_HallReader_readSlate_28, e_HallReader_readSlate_56, e_HallReader_readSlate_57, e_HallReader_readSlate_67]
    refine EV_call (CV_mono (q_newNameNext (d + 1) hT hs (by omega) (by omega) (by omega)) ?_)
    rintro r t (⟨e, ok, ntk, f, k, c⟩ | ⟨e, f, g9, g⟩)
    · subst e
      rw [← h2] at c
      have g7 : t 7 7 = nmT T n p1 := (k.2.2.2.2.1 ok.1).2
      simp (disch := first | assumption | omega) only [rn, wk, al, wr_e, td_e, tm_e, mset_eq, mset_ne, if_pos, if_neg, Int.reduceAdd, Int.reduceSub, Int.reduceMul, Int.reduceNeg, Int.reduceLT, Int.reduceLE, Int.reduceEq, Int.cast_ofNat_Int, eq_self, and_true, true_and, ite_self, true_or, or_true, false_or, or_false, and_false, false_and, not_true_eq_false, not_false_eq_true, if_true, if_false, e_HallReader_readSlate_0, e_HallReader_readSlate_18, e_HallReader_readSlate_28, e_HallReader_readSlate_56, e_HallReader_readSlate_57, e_HallReader_readSlate_67, g7]
      refine EV_call (CV_mono (q_wordNext (d + 2) hT c 6 (by omega)) ?_)
      rintro r t2 (⟨e, ok2, f2, k2, cc2⟩ | ⟨e, nok, f2, g8, g9⟩)
      · subst e
        rw [← h3] at cc2
        have tt : ∀ c i, ¬ (c = 7 ∧ 3 ≤ i ∧ i ≤ 7) → t2 c i = s c i := fun c i x => by rw [f2 c i x, f c i x]
        have e58 : t2 58 = s 58 := funext (fun i => tt _ _ (by omega))
        have e571 : t2 57 1 = s 57 1 := tt _ _ (by omega)
        have hpn := q_placeNext (d + 1) hT cc2 (by omega)
        rw [e58, e571] at hpn
        simp (disch := first | assumption | omega) only [rn, wk, al, wr_e, td_e, tm_e, mset_eq, mset_ne, if_pos, if_neg, Int.reduceAdd, Int.reduceSub, Int.reduceMul, Int.reduceNeg, Int.reduceLT, Int.reduceLE, Int.reduceEq, Int.cast_ofNat_Int, eq_self, and_true, true_and, ite_self, true_or, or_true, false_or, or_false, and_false, false_and, not_true_eq_false, not_false_eq_true, if_true, if_false, e_HallReader_readSlate_0, e_HallReader_readSlate_18, e_HallReader_readSlate_28, e_HallReader_readSlate_56, e_HallReader_readSlate_57, e_HallReader_readSlate_67]
        refine EV_call (CV_mono hpn ?_)
        rintro r t3 (⟨e, ne, on, f3, k3, cc3⟩ | ⟨e, f3, g9, g⟩)
        · obtain ⟨pl, hpl⟩ : ∃ pl, pl = ixa (s 58) (nmT T n p3) 0 (s 57 1) := ⟨_, rfl⟩
          have hplb := ixa_b (s 58) (nmT T n p3) 0 (m := s 57 1) (by omega)
          rw [← hpl] at e ne hplb
          subst e
          have t3f : ∀ c i, ¬ (c = 7 ∧ 3 ≤ i ∧ i ≤ 7) → t3 c i = s c i := fun c i x => by rw [f3 c i x, tt c i x]
          have t3c : t3 57 3 = s 57 3 := t3f _ _ (by omega)
          obtain ⟨t4, ht4⟩ : ∃ t4, t4 = mset (mset (mset t3 58 (7 + s 57 3) (nmT T n p1)) 62 (s 57 3) r) 57 3 (s 57 3 + 1) := ⟨_, rfl⟩
          have tf : ∀ c i, ¬ (c = 57 ∧ i = 3) → ¬ (c = 58 ∧ i = 7 + s 57 3) → ¬ (c = 62 ∧ i = s 57 3) → t4 c i = t3 c i := fun c i x1 x2 x3 => by rw [ht4]; simp (disch := omega) only [mset_ne]
          have qa : sem (d + 5) 56 [57, nmT T n p1, r] t3 = some (0, t4) := by
            apply CV_eq; apply c_Hall_addSlate
            simp (disch := first | assumption | omega) only [rn, wk, al, wr_e, td_e, tm_e, mset_eq, mset_ne, if_pos, if_neg, Int.reduceAdd, Int.reduceSub, Int.reduceMul, Int.reduceNeg, Int.reduceLT, Int.reduceLE, Int.reduceEq, Int.cast_ofNat_Int, eq_self, and_true, true_and, ite_self, true_or, or_true, false_or, or_false, and_false, false_and, not_true_eq_false, not_false_eq_true, if_true, if_false, e_Hall_addSlate_0, t3c, ← ht4]
          have hA : AOk (D + 7) 251 T n s p t4 (tke T n p3) := fun u0 u hu => by
            refine CV_mono (r_slate D h1 h2 h3 hT hu) ?_
            intro r' w h
            unfold SlP at h
            rw [← hpl] at h
            have hs_ : isNm T n p3 ∧ r ≠ -1 ∧ r' = 1 ∧ (∀ c i, ¬ (c = 137 ∧ 12 ≤ i ∧ i ≤ 15) → ¬ (c = 139 ∧ i = 64 + 7 + s 57 3) → ¬ (c = 138 ∧ (i = 3522 + s 57 3 ∨ i = 3474)) → w c i = u c i) ∧ w 139 (64 + 7 + s 57 3) = nmT T n p1 ∧ w 138 (3522 + s 57 3) = r ∧ w 138 3474 = s 57 3 + 1 ∧ Rs_ T n (tke T n p3) w := by
              rcases h with ⟨a, h⟩ | ⟨a, ⟨b, h⟩ | ⟨b, c, h⟩ | ⟨b, c, ⟨e, h⟩ | ⟨e, ⟨g, h⟩ | ⟨g, i, h⟩ | h⟩⟩⟩
              all_goals first | exact h | contradiction
            obtain ⟨-, -, e, w1, w2, w3, w4, w5⟩ := hs_
            refine ⟨e, ?_, w5, ?_, fun c i y1 y2 y3 => ?_⟩
            · refine HP_slate (m := s 57 3) (a := r) (v := nmT T n p1) hu.1 rfl (by omega) (show 0 ≤ r ∧ r < s 57 1 by omega) (fun k i hk y1 y2 y3 => ?_) ?_ ?_ ?_ (fun i y1 y2 y3 y4 => ?_) ?_ ?_ (fun i y1 y2 y3 => ?_) ?_
              · show t4 (57 + k) i = s (57 + k) i
                rw [tf _ _ (by omega) (by omega) (by omega)]; exact t3f _ _ (by omega)
              · show t4 57 3 = _
                rw [ht4, mset_eq rfl rfl]
              · show t4 58 _ = _
                rw [ht4]; simp (disch := omega) only [mset_ne, mset_eq]
              · show t4 62 _ = _
                rw [ht4]; simp (disch := omega) only [mset_ne, mset_eq]
              · show w 138 (3472 + i) = u 138 (3472 + i)
                exact w1 _ _ (by omega) (by omega) (by omega)
              · exact w4
              · show w 138 (3472 + (50 + s 57 3)) = r
                rw [show 3472 + (50 + s 57 3) = 3522 + s 57 3 by omega]; exact w3
              · show w 139 (64 + i) = u 139 (64 + i)
                exact w1 _ _ (by omega) (by omega) (by omega)
              · show w 139 (64 + (7 + s 57 3)) = _
                rw [← w2]; congr 1; omega
            · rw [w1 _ _ (by omega) (by omega) (by omega), tf _ _ (by omega) (by omega) (by omega), t3f _ _ (by omega)]; exact hu.2.2.1
            · rw [w1 c i (by omega) (by omega) (by omega)]; exact hu.2.2.2 c i y1 y2 y3
          have hc1 : Cs T n (tke T n p3) t4 := Cs_f (fun c i h => tf c i (by omega) (by omega) (by omega)) cc3
          simp (disch := first | assumption | omega) only [rn, wk, al, wr_e, td_e, tm_e, mset_eq, mset_ne, if_pos, if_neg, Int.reduceAdd, Int.reduceSub, Int.reduceMul, Int.reduceNeg, Int.reduceLT, Int.reduceLE, Int.reduceEq, Int.cast_ofNat_Int, eq_self, and_true, true_and, ite_self, true_or, or_true, false_or, or_false, and_false, false_and, not_true_eq_false, not_false_eq_true, if_true, if_false, e_HallReader_readSlate_0, e_HallReader_readSlate_18, e_HallReader_readSlate_28, e_HallReader_readSlate_56, e_HallReader_readSlate_57, e_HallReader_readSlate_67, ne, qa]
          refine EV_call (CV_mono (q_closeNext (d + 2) hT hc1) ?_)
          intro r2 t5 h5
          have h01 := CkP01 h5
          have hfin : PX (D + 7) 251 T n p s r2 t5 := PX_fin (fun c i a b e => by rw [tf c i (by omega) (by omega) (by omega)]; exact t3f c i (by omega)) ⟨by rw [tf _ _ (by omega) (by omega) (by omega)]; exact t3f _ _ (by omega), by rw [tf _ _ (by omega) (by omega) (by omega)]; exact t3f _ _ (by omega)⟩ (by omega) hc1 hA h5
          simp (disch := first | assumption | omega) only [rn, wk, al, wr_e, td_e, tm_e, mset_eq, mset_ne, if_pos, if_neg, Int.reduceAdd, Int.reduceSub, Int.reduceMul, Int.reduceNeg, Int.reduceLT, Int.reduceLE, Int.reduceEq, Int.cast_ofNat_Int, eq_self, and_true, true_and, ite_self, true_or, or_true, false_or, or_false, and_false, false_and, not_true_eq_false, not_false_eq_true, if_true, if_false, e_HallReader_readSlate_0, e_HallReader_readSlate_18, e_HallReader_readSlate_28, e_HallReader_readSlate_56, e_HallReader_readSlate_57, e_HallReader_readSlate_67]
          exact hfin
        · subst e
          have ff : Ftf s t3 := fun c i x => by rw [f3 c i x]; exact tt c i (by omega)
          have hfin : PX (D + 7) 251 T n p s 0 t3 := by
            rcases g with ⟨nok, g8⟩ | ⟨ok3, tk, g8⟩
            all_goals
              refine PX_no ff g8 g9 (flt_p (by omega)) (no _ _ (fun u r w h => ?_))
              rcases h with ⟨a, h⟩ | ⟨a, ⟨b, h⟩ | ⟨b, c, h⟩ | ⟨b, c, ⟨e, h⟩ | ⟨e, ⟨g, h⟩ | ⟨g, i, h⟩ | ⟨g, i, h⟩⟩⟩⟩
              all_goals first | exact h | contradiction
          simp (disch := first | assumption | omega) only [rn, wk, al, wr_e, td_e, tm_e, mset_eq, mset_ne, if_pos, if_neg, Int.reduceAdd, Int.reduceSub, Int.reduceMul, Int.reduceNeg, Int.reduceLT, Int.reduceLE, Int.reduceEq, Int.cast_ofNat_Int, eq_self, and_true, true_and, ite_self, true_or, or_true, false_or, or_false, and_false, false_and, not_true_eq_false, not_false_eq_true, if_true, if_false, e_HallReader_readSlate_0, e_HallReader_readSlate_18, e_HallReader_readSlate_28, e_HallReader_readSlate_56, e_HallReader_readSlate_57, e_HallReader_readSlate_67]
          exact hfin
      · subst e
        have ff : Ftf s t2 := fun c i x => by rw [f2 c i x]; exact f c i (by omega)
        have hfin : PX (D + 7) 251 T n p s 0 t2 := by
          refine PX_no ff g8 g9 (flt_p (by omega)) (no _ _ (fun u r w h => ?_))
          rcases h with ⟨a, h⟩ | ⟨a, ⟨b, h⟩ | ⟨b, c, h⟩ | ⟨b, c, ⟨e, h⟩ | ⟨e, ⟨g, h⟩ | ⟨g, i, h⟩ | ⟨g, i, h⟩⟩⟩⟩
          all_goals first | exact h | contradiction
        simp (disch := first | assumption | omega) only [rn, wk, al, wr_e, td_e, tm_e, mset_eq, mset_ne, if_pos, if_neg, Int.reduceAdd, Int.reduceSub, Int.reduceMul, Int.reduceNeg, Int.reduceLT, Int.reduceLE, Int.reduceEq, Int.cast_ofNat_Int, eq_self, and_true, true_and, ite_self, true_or, or_true, false_or, or_false, and_false, false_and, not_true_eq_false, not_false_eq_true, if_true, if_false, e_HallReader_readSlate_0, e_HallReader_readSlate_18, e_HallReader_readSlate_28, e_HallReader_readSlate_56, e_HallReader_readSlate_57, e_HallReader_readSlate_67]
        exact hfin
    · subst e
      have hfin : PX (D + 7) 251 T n p s 0 t := by
        rcases g with ⟨nok, g8⟩ | ⟨ok, tk, g8⟩
        all_goals
          refine PX_no f g8 g9 (flt_p (by omega)) (no _ _ (fun u r w h => ?_))
          rcases h with ⟨a, h⟩ | ⟨a, ⟨b, h⟩ | ⟨b, c, h⟩ | ⟨b, c, ⟨e, h⟩ | ⟨e, ⟨g, h⟩ | ⟨g, i, h⟩ | ⟨g, i, h⟩⟩⟩⟩
          all_goals first | exact h | contradiction
      simp (disch := first | assumption | omega) only [rn, wk, al, wr_e, td_e, tm_e, mset_eq, mset_ne, if_pos, if_neg, Int.reduceAdd, Int.reduceSub, Int.reduceMul, Int.reduceNeg, Int.reduceLT, Int.reduceLE, Int.reduceEq, Int.cast_ofNat_Int, eq_self, and_true, true_and, ite_self, true_or, or_true, false_or, or_false, and_false, false_and, not_true_eq_false, not_false_eq_true, if_true, if_false, e_HallReader_readSlate_0, e_HallReader_readSlate_18, e_HallReader_readSlate_28, e_HallReader_readSlate_56, e_HallReader_readSlate_57, e_HallReader_readSlate_67]
      exact hfin
theorem r_caller (D : Nat) {T : Int → Int} {n p p1 p2 p3 : Int} (h1 : p1 = tke T n p) (h2 : p2 = tke T n p1) (h3 : p3 = tke T n p2) (hT : TX T n) {s u0 u : Mem} (hu : RlH T n s u0 u p) : CV (D + 7) 252 [137] u (SlP T n p p1 p2 p3 (tkn (s 58) (nmT T n p1) (s 57 1) (s 57 3) (s 57 4)) (ixa (s 58) (nmT T n p3) 0 (s 57 1)) u (s 57 4) 5 11 (3472 + (54 + 11 * s 57 4)) 3475) := by
  obtain ⟨hp, hr, -, -⟩ := hu
  obtain ⟨c0, k1, k2, k3, k4, k5, k0⟩ := HPu_c hp
  have hnew := r_newOne (D + 1) hT hr hp 3 5 11 (s 57 4) (by omega) (by exact k4) (by omega) (by omega) (by omega)
  apply c_R_aCaller
  simp (disch := first | assumption | omega) only [rn, wk, al, wr_e, td_e, tm_e, mset_eq, mset_ne, if_pos, if_neg, Int.reduceAdd, Int.reduceSub, Int.reduceMul, Int.reduceNeg, Int.reduceLT, Int.reduceLE, Int.reduceEq, Int.cast_ofNat_Int, eq_self, and_true, true_and, ite_self, true_or, or_true, false_or, or_false, and_false, false_and, not_true_eq_false, not_false_eq_true, if_true, if_false, e_R_aCaller_0, e_R_aCaller_44, e_R_aCaller_46]
  refine EV_call (CV_mono hnew ?_)
  intro r w hw
  unfold NwP at hw
  rw [← h1, ← h2] at hw
  rcases hw with ⟨a, h⟩ | ⟨a, ⟨b, h⟩ | ⟨b, c, h⟩ | ⟨b, c, e, w1, w2, w3⟩⟩
  · have hq : SlP T n p p1 p2 p3 (tkn (s 58) (nmT T n p1) (s 57 1) (s 57 3) (s 57 4)) (ixa (s 58) (nmT T n p3) 0 (s 57 1)) u (s 57 4) 5 11 (3472 + (54 + 11 * s 57 4)) 3475 r w := Or.inl ⟨a, h⟩
    obtain ⟨e, -⟩ := id h
    subst e
    simp (disch := first | assumption | omega) only [rn, wk, al, wr_e, td_e, tm_e, mset_eq, mset_ne, if_pos, if_neg, Int.reduceAdd, Int.reduceSub, Int.reduceMul, Int.reduceNeg, Int.reduceLT, Int.reduceLE, Int.reduceEq, Int.cast_ofNat_Int, eq_self, and_true, true_and, ite_self, true_or, or_true, false_or, or_false, and_false, false_and, not_true_eq_false, not_false_eq_true, if_true, if_false, e_R_aCaller_0, e_R_aCaller_44, e_R_aCaller_46]
    exact hq
  · have hq : SlP T n p p1 p2 p3 (tkn (s 58) (nmT T n p1) (s 57 1) (s 57 3) (s 57 4)) (ixa (s 58) (nmT T n p3) 0 (s 57 1)) u (s 57 4) 5 11 (3472 + (54 + 11 * s 57 4)) 3475 r w := Or.inr ⟨a, Or.inl ⟨b, h⟩⟩
    obtain ⟨e, -⟩ := id h
    subst e
    simp (disch := first | assumption | omega) only [rn, wk, al, wr_e, td_e, tm_e, mset_eq, mset_ne, if_pos, if_neg, Int.reduceAdd, Int.reduceSub, Int.reduceMul, Int.reduceNeg, Int.reduceLT, Int.reduceLE, Int.reduceEq, Int.cast_ofNat_Int, eq_self, and_true, true_and, ite_self, true_or, or_true, false_or, or_false, and_false, false_and, not_true_eq_false, not_false_eq_true, if_true, if_false, e_R_aCaller_0, e_R_aCaller_44, e_R_aCaller_46]
    exact hq
  · have hq : SlP T n p p1 p2 p3 (tkn (s 58) (nmT T n p1) (s 57 1) (s 57 3) (s 57 4)) (ixa (s 58) (nmT T n p3) 0 (s 57 1)) u (s 57 4) 5 11 (3472 + (54 + 11 * s 57 4)) 3475 r w := Or.inr ⟨a, Or.inr (Or.inl ⟨b, c, h⟩)⟩
    obtain ⟨e, -⟩ := id h
    subst e
    simp (disch := first | assumption | omega) only [rn, wk, al, wr_e, td_e, tm_e, mset_eq, mset_ne, if_pos, if_neg, Int.reduceAdd, Int.reduceSub, Int.reduceMul, Int.reduceNeg, Int.reduceLT, Int.reduceLE, Int.reduceEq, Int.cast_ofNat_Int, eq_self, and_true, true_and, ite_self, true_or, or_true, false_or, or_false, and_false, false_and, not_true_eq_false, not_false_eq_true, if_true, if_false, e_R_aCaller_0, e_R_aCaller_44, e_R_aCaller_46]
    exact hq
  · subst e
    simp (disch := first | assumption | omega) only [rn, wk, al, wr_e, td_e, tm_e, mset_eq, mset_ne, if_pos, if_neg, Int.reduceAdd, Int.reduceSub, Int.reduceMul, Int.reduceNeg, Int.reduceLT, Int.reduceLE, Int.reduceEq, Int.cast_ofNat_Int, eq_self, and_true, true_and, ite_self, true_or, or_true, false_or, or_false, and_false, false_and, not_true_eq_false, not_false_eq_true, if_true, if_false]
    refine EV_call (CV_mono (r_wantWord (D + 3) hT w3 6 9 (by omega) pm_6) ?_)
    rintro r v (⟨e, ok, f, v1⟩ | ⟨e, nok, f, g8, g9⟩)
    · subst e
      rw [← h3] at v1
      have vf : ∀ c i, ¬ (c = 137 ∧ 12 ≤ i ∧ i ≤ 15) → ¬ (c = 139 ∧ i = 64 + 11 + s 57 4) → v c i = u c i := fun c i x y => by rw [f c i x, w1 c i x y]
      have v0 : v 138 3475 = s 57 4 := by rw [vf _ _ (by omega) (by omega)]; exact k4
      simp (disch := first | assumption | omega) only [rn, wk, al, wr_e, td_e, tm_e, mset_eq, mset_ne, if_pos, if_neg, Int.reduceAdd, Int.reduceSub, Int.reduceMul, Int.reduceNeg, Int.reduceLT, Int.reduceLE, Int.reduceEq, Int.cast_ofNat_Int, eq_self, and_true, true_and, ite_self, true_or, or_true, false_or, or_false, and_false, false_and, not_true_eq_false, not_false_eq_true, if_true, if_false, v0, q_callerRow]
      refine EV_call (CV_mono (r_newPlaceTo (D + 1) hT v1 (s := s) (by rw [vf _ _ (by omega) (by omega)]; exact k1) (by omega) (3472 + (54 + 11 * s 57 4)) (by omega)) ?_)
      have en : ixa (v 139) (nmT T n p3) 64 (s 57 1) = ixa (s 58) (nmT T n p3) 0 (s 57 1) := by
        rw [← (HPu_n hp (nmT T n p3)).1]
        exact ixa_congr (by omega) (fun i x y => vf _ _ (by omega) (by omega))
      rintro r x h
      unfold OkP at h
      rw [en] at h
      rcases h with ⟨e, on, ne, xf, xv, xr⟩ | ⟨e, xf, x17, ⟨on, x18⟩ | ⟨on, en2, x18⟩⟩
      · subst e
        have x0 : x 138 3475 = s 57 4 := by rw [xf _ _ (by omega) (by omega)]; exact v0
        obtain ⟨z, hz⟩ : ∃ z, z = mset x 138 3475 (s 57 4 + 1) := ⟨_, rfl⟩
        have zf : ∀ c i, ¬ (c = 138 ∧ i = 3475) → z c i = x c i := fun c i h => by rw [hz, mset_ne (by omega)]
        have hq : SlP T n p p1 p2 p3 (tkn (s 58) (nmT T n p1) (s 57 1) (s 57 3) (s 57 4)) (ixa (s 58) (nmT T n p3) 0 (s 57 1)) u (s 57 4) 5 11 (3472 + (54 + 11 * s 57 4)) 3475 1 z := Or.inr ⟨a, Or.inr (Or.inr ⟨b, c, Or.inr ⟨ok, Or.inr (Or.inr ⟨on, ne, rfl, fun c i y1 y2 y3 => by rw [zf c i (by omega), xf c i y1 (by omega)]; exact vf c i y1 y2, by rw [zf _ _ (by omega), xf _ _ (by omega) (by omega), f _ _ (by omega)]; exact w2, by rw [zf _ _ (by omega)]; exact xv, by rw [hz, mset_eq rfl rfl], Rs_w (fun i _ => zf _ _ (by omega)) (fun i => zf _ _ (by omega)) xr⟩)⟩⟩)⟩
        simp (disch := first | assumption | omega) only [rn, wk, al, wr_e, td_e, tm_e, mset_eq, mset_ne, if_pos, if_neg, Int.reduceAdd, Int.reduceSub, Int.reduceMul, Int.reduceNeg, Int.reduceLT, Int.reduceLE, Int.reduceEq, Int.cast_ofNat_Int, eq_self, and_true, true_and, ite_self, true_or, or_true, false_or, or_false, and_false, false_and, not_true_eq_false, not_false_eq_true, if_true, if_false, e_R_aCaller_0, e_R_aCaller_44, e_R_aCaller_46, x0, ← hz]
        exact hq
      · subst e
        have hq : SlP T n p p1 p2 p3 (tkn (s 58) (nmT T n p1) (s 57 1) (s 57 3) (s 57 4)) (ixa (s 58) (nmT T n p3) 0 (s 57 1)) u (s 57 4) 5 11 (3472 + (54 + 11 * s 57 4)) 3475 0 x := Or.inr ⟨a, Or.inr (Or.inr ⟨b, c, Or.inr ⟨ok, Or.inl ⟨on, rfl, fun c i y1 y2 y3 => by rw [xf c i (by omega) (by omega)]; exact vf c i (by omega) (by omega), x18, x17⟩⟩⟩)⟩
        simp (disch := first | assumption | omega) only [rn, wk, al, wr_e, td_e, tm_e, mset_eq, mset_ne, if_pos, if_neg, Int.reduceAdd, Int.reduceSub, Int.reduceMul, Int.reduceNeg, Int.reduceLT, Int.reduceLE, Int.reduceEq, Int.cast_ofNat_Int, eq_self, and_true, true_and, ite_self, true_or, or_true, false_or, or_false, and_false, false_and, not_true_eq_false, not_false_eq_true, if_true, if_false, e_R_aCaller_0, e_R_aCaller_44, e_R_aCaller_46]
        exact hq
      · subst e
        have hq : SlP T n p p1 p2 p3 (tkn (s 58) (nmT T n p1) (s 57 1) (s 57 3) (s 57 4)) (ixa (s 58) (nmT T n p3) 0 (s 57 1)) u (s 57 4) 5 11 (3472 + (54 + 11 * s 57 4)) 3475 0 x := Or.inr ⟨a, Or.inr (Or.inr ⟨b, c, Or.inr ⟨ok, Or.inr (Or.inl ⟨on, en2, rfl, fun c i y1 y2 y3 => by rw [xf c i (by omega) (by omega)]; exact vf c i (by omega) (by omega), x18, x17⟩)⟩⟩)⟩
        simp (disch := first | assumption | omega) only [rn, wk, al, wr_e, td_e, tm_e, mset_eq, mset_ne, if_pos, if_neg, Int.reduceAdd, Int.reduceSub, Int.reduceMul, Int.reduceNeg, Int.reduceLT, Int.reduceLE, Int.reduceEq, Int.cast_ofNat_Int, eq_self, and_true, true_and, ite_self, true_or, or_true, false_or, or_false, and_false, false_and, not_true_eq_false, not_false_eq_true, if_true, if_false, e_R_aCaller_0, e_R_aCaller_44, e_R_aCaller_46]
        exact hq
    · subst e
      have hq : SlP T n p p1 p2 p3 (tkn (s 58) (nmT T n p1) (s 57 1) (s 57 3) (s 57 4)) (ixa (s 58) (nmT T n p3) 0 (s 57 1)) u (s 57 4) 5 11 (3472 + (54 + 11 * s 57 4)) 3475 0 v := Or.inr ⟨a, Or.inr (Or.inr ⟨b, c, Or.inl ⟨nok, rfl, fun c i y1 y2 y3 => by rw [f c i (by omega)]; exact w1 c i (by omega) (by omega), g8, g9⟩⟩)⟩
      simp (disch := first | assumption | omega) only [rn, wk, al, wr_e, td_e, tm_e, mset_eq, mset_ne, if_pos, if_neg, Int.reduceAdd, Int.reduceSub, Int.reduceMul, Int.reduceNeg, Int.reduceLT, Int.reduceLE, Int.reduceEq, Int.cast_ofNat_Int, eq_self, and_true, true_and, ite_self, true_or, or_true, false_or, or_false, and_false, false_and, not_true_eq_false, not_false_eq_true, if_true, if_false, e_R_aCaller_0, e_R_aCaller_44, e_R_aCaller_46]
      exact hq
theorem x_caller (d D : Nat) {T : Int → Int} {n p : Int} (hT : TX T n) {s : Mem} (hp : 0 ≤ p ∧ p ≤ n) (hk : TkC T n p s) (hs : Cs T n (tke T n p) s) (hV : ∃ u, HPu s u) : CV (d + 6) 57 [9, 57] s (PX (D + 7) 252 T n p s) := by
  obtain ⟨v, hv⟩ := hV
  obtain ⟨c0, -⟩ := HPu_c hv
  obtain ⟨p1, h1⟩ : ∃ p1, p1 = tke T n p := ⟨_, rfl⟩
  obtain ⟨p2, h2⟩ : ∃ p2, p2 = tke T n p1 := ⟨_, rfl⟩
  obtain ⟨p3, h3⟩ : ∃ p3, p3 = tke T n p2 := ⟨_, rfl⟩
  rw [← h1] at hs
  obtain ⟨tb1, tb2, -⟩ := tke_b (T := T) hp
  obtain ⟨ub1, ub2, -⟩ := tke_b (T := T) hs.1
  have hs1 := hs.1
  obtain ⟨vb1, vb2, -⟩ := tke_b (T := T) (n := n) (p := p2) (by omega)
  obtain ⟨wb1, wb2, -⟩ := tke_b (T := T) (n := n) (p := p3) (by omega)
  have no : ∀ k f, (∀ u r w, SlP T n p p1 p2 p3 (tkn (s 58) (nmT T n p1) (s 57 1) (s 57 3) (s 57 4)) (ixa (s 58) (nmT T n p3) 0 (s 57 1)) u (s 57 4) 5 11 (3472 + (54 + 11 * s 57 4)) 3475 r w → NoR u k f r w) → ANo (D + 7) 252 T n s p k f := fun k f h u0 u hu => CV_mono (r_caller D h1 h2 h3 hT hu) (fun r w hw => NoR_u hu.2.2.2 (h u r w hw))
  apply c_HallReader_readCaller
  by_cases c7 : s 57 4 = 5
  · have q6 := q_Trefuse (d + 4) s 6 hk
    have hp2 : PX (D + 7) 252 T n p s 0 (mset (mset s 7 8 (flt T n p 6)) 7 9 (tkq T n p)) := PX_no (Ftf_r (fun _ _ _ => rfl)) (by rw [mset_ne (by omega), mset_eq rfl rfl]) (mset_eq rfl rfl) (flt_p (by omega)) (no _ _ (fun u r w h => by
      rcases h with ⟨a, h⟩ | ⟨a, -⟩
      · exact h
      · contradiction))
    simp (disch := first | assumption | omega) only [rn, wk, al, wr_e, td_e, tm_e, mset_eq, mset_ne, if_pos, if_neg, Int.reduceAdd, Int.reduceSub, Int.reduceMul, Int.reduceNeg, Int.reduceLT, Int.reduceLE, Int.reduceEq, Int.cast_ofNat_Int, eq_self, and_true, true_and, ite_self, true_or, or_true, false_or, or_false, and_false, false_and, not_true_eq_false, not_false_eq_true, if_true, if_false, e_HallReader_readCaller_0, e_HallReader_readCaller_18, e_HallReader_readCaller_28, e_HallReader_readCaller_56, e_HallReader_readCaller_57, e_HallReader_readCaller_67, c7, q6]
    exact hp2
  · simp (disch := first | assumption | omega) only [rn, wk, al, wr_e, td_e, tm_e, mset_eq, mset_ne, if_pos, if_neg, Int.reduceAdd, Int.reduceSub, Int.reduceMul, Int.reduceNeg, Int.reduceLT, Int.reduceLE, Int.reduceEq, Int.cast_ofNat_Int, eq_self, and_true, true_and, ite_self, true_or, or_true, false_or, or_false, and_false, false_and, not_true_eq_false, not_false_eq_true, if_true, if_false, e_HallReader_readCaller_0, e_HallReader_readCaller_18, e_HallReader_readCaller_28, e_HallReader_readCaller_56, e_HallReader_readCaller_57, e_HallReader_readCaller_67]
    refine EV_call (CV_mono (q_newNameNext (d + 1) hT hs (by omega) (by omega) (by omega)) ?_)
    rintro r t (⟨e, ok, ntk, f, k, c⟩ | ⟨e, f, g9, g⟩)
    · subst e
      rw [← h2] at c
      have g7 : t 7 7 = nmT T n p1 := (k.2.2.2.2.1 ok.1).2
      simp (disch := first | assumption | omega) only [rn, wk, al, wr_e, td_e, tm_e, mset_eq, mset_ne, if_pos, if_neg, Int.reduceAdd, Int.reduceSub, Int.reduceMul, Int.reduceNeg, Int.reduceLT, Int.reduceLE, Int.reduceEq, Int.cast_ofNat_Int, eq_self, and_true, true_and, ite_self, true_or, or_true, false_or, or_false, and_false, false_and, not_true_eq_false, not_false_eq_true, if_true, if_false, e_HallReader_readCaller_0, e_HallReader_readCaller_18, e_HallReader_readCaller_28, e_HallReader_readCaller_56, e_HallReader_readCaller_57, e_HallReader_readCaller_67, g7]
      refine EV_call (CV_mono (q_wordNext (d + 2) hT c 6 (by omega)) ?_)
      rintro r t2 (⟨e, ok2, f2, k2, cc2⟩ | ⟨e, nok, f2, g8, g9⟩)
      · subst e
        rw [← h3] at cc2
        have tt : ∀ c i, ¬ (c = 7 ∧ 3 ≤ i ∧ i ≤ 7) → t2 c i = s c i := fun c i x => by rw [f2 c i x, f c i x]
        have e58 : t2 58 = s 58 := funext (fun i => tt _ _ (by omega))
        have e571 : t2 57 1 = s 57 1 := tt _ _ (by omega)
        have hpn := q_placeNext (d + 1) hT cc2 (by omega)
        rw [e58, e571] at hpn
        simp (disch := first | assumption | omega) only [rn, wk, al, wr_e, td_e, tm_e, mset_eq, mset_ne, if_pos, if_neg, Int.reduceAdd, Int.reduceSub, Int.reduceMul, Int.reduceNeg, Int.reduceLT, Int.reduceLE, Int.reduceEq, Int.cast_ofNat_Int, eq_self, and_true, true_and, ite_self, true_or, or_true, false_or, or_false, and_false, false_and, not_true_eq_false, not_false_eq_true, if_true, if_false, e_HallReader_readCaller_0, e_HallReader_readCaller_18, e_HallReader_readCaller_28, e_HallReader_readCaller_56, e_HallReader_readCaller_57, e_HallReader_readCaller_67]
        refine EV_call (CV_mono hpn ?_)
        rintro r t3 (⟨e, ne, on, f3, k3, cc3⟩ | ⟨e, f3, g9, g⟩)
        · obtain ⟨pl, hpl⟩ : ∃ pl, pl = ixa (s 58) (nmT T n p3) 0 (s 57 1) := ⟨_, rfl⟩
          have hplb := ixa_b (s 58) (nmT T n p3) 0 (m := s 57 1) (by omega)
          rw [← hpl] at e ne hplb
          subst e
          have t3f : ∀ c i, ¬ (c = 7 ∧ 3 ≤ i ∧ i ≤ 7) → t3 c i = s c i := fun c i x => by rw [f3 c i x, tt c i x]
          have t3c : t3 57 4 = s 57 4 := t3f _ _ (by omega)
          obtain ⟨t4, ht4⟩ : ∃ t4, t4 = mset (mset (mset (mset t3 58 (11 + s 57 4) (nmT T n p1)) 63 (s 57 4) r) 64 (s 57 4) 0) 57 4 (s 57 4 + 1) := ⟨_, rfl⟩
          have tf : ∀ c i, ¬ (c = 57 ∧ i = 4) → ¬ (c = 58 ∧ i = 11 + s 57 4) → ¬ ((c = 63 ∨ c = 64) ∧ i = s 57 4) → t4 c i = t3 c i := fun c i x1 x2 x3 => by rw [ht4]; simp (disch := omega) only [mset_ne]
          have qa : sem (d + 5) 58 [57, nmT T n p1, r] t3 = some (0, t4) := by
            apply CV_eq; apply c_Hall_addCaller
            simp (disch := first | assumption | omega) only [rn, wk, al, wr_e, td_e, tm_e, mset_eq, mset_ne, if_pos, if_neg, Int.reduceAdd, Int.reduceSub, Int.reduceMul, Int.reduceNeg, Int.reduceLT, Int.reduceLE, Int.reduceEq, Int.cast_ofNat_Int, eq_self, and_true, true_and, ite_self, true_or, or_true, false_or, or_false, and_false, false_and, not_true_eq_false, not_false_eq_true, if_true, if_false, e_Hall_addCaller_0, t3c, ← ht4]
          have hA : AOk (D + 7) 252 T n s p t4 (tke T n p3) := fun u0 u hu => by
            refine CV_mono (r_caller D h1 h2 h3 hT hu) ?_
            intro r' w h
            unfold SlP at h
            rw [← hpl] at h
            have hs_ : isNm T n p3 ∧ r ≠ -1 ∧ r' = 1 ∧ (∀ c i, ¬ (c = 137 ∧ 12 ≤ i ∧ i ≤ 15) → ¬ (c = 139 ∧ i = 64 + 11 + s 57 4) → ¬ (c = 138 ∧ (i = 3472 + (54 + 11 * s 57 4) ∨ i = 3475)) → w c i = u c i) ∧ w 139 (64 + 11 + s 57 4) = nmT T n p1 ∧ w 138 (3472 + (54 + 11 * s 57 4)) = r ∧ w 138 3475 = s 57 4 + 1 ∧ Rs_ T n (tke T n p3) w := by
              rcases h with ⟨a, h⟩ | ⟨a, ⟨b, h⟩ | ⟨b, c, h⟩ | ⟨b, c, ⟨e, h⟩ | ⟨e, ⟨g, h⟩ | ⟨g, i, h⟩ | h⟩⟩⟩
              all_goals first | exact h | contradiction
            obtain ⟨-, -, e, w1, w2, w3, w4, w5⟩ := hs_
            refine ⟨e, ?_, w5, ?_, fun c i y1 y2 y3 => ?_⟩
            · refine HP_caller (m := s 57 4) (a := r) (v := nmT T n p1) hu.1 rfl (by omega) (show 0 ≤ r ∧ r < s 57 1 by omega) (fun k i hk y1 y2 y3 y4 => ?_) ?_ ?_ ?_ ?_ (fun i y1 y2 y3 y4 => ?_) ?_ ?_ (fun i y1 y2 y3 => ?_) ?_
              · show t4 (57 + k) i = s (57 + k) i
                rw [tf _ _ (by omega) (by omega) (by omega)]; exact t3f _ _ (by omega)
              · show t4 57 4 = _
                rw [ht4, mset_eq rfl rfl]
              · show t4 58 _ = _
                rw [ht4]; simp (disch := omega) only [mset_ne, mset_eq]
              · show t4 63 _ = _
                rw [ht4]; simp (disch := omega) only [mset_ne, mset_eq]
              · show t4 64 _ = _
                rw [ht4]; simp (disch := omega) only [mset_ne, mset_eq]
              · show w 138 (3472 + i) = u 138 (3472 + i)
                exact w1 _ _ (by omega) (by omega) (by omega)
              · exact w4
              · show w 138 (3472 + (54 + 11 * s 57 4)) = r
                rw [show 3472 + (54 + 11 * s 57 4) = 3472 + (54 + 11 * s 57 4) by omega]; exact w3
              · show w 139 (64 + i) = u 139 (64 + i)
                exact w1 _ _ (by omega) (by omega) (by omega)
              · show w 139 (64 + (11 + s 57 4)) = _
                rw [← w2]; congr 1; omega
            · rw [w1 _ _ (by omega) (by omega) (by omega), tf _ _ (by omega) (by omega) (by omega), t3f _ _ (by omega)]; exact hu.2.2.1
            · rw [w1 c i (by omega) (by omega) (by omega)]; exact hu.2.2.2 c i y1 y2 y3
          have hc1 : Cs T n (tke T n p3) t4 := Cs_f (fun c i h => tf c i (by omega) (by omega) (by omega)) cc3
          simp (disch := first | assumption | omega) only [rn, wk, al, wr_e, td_e, tm_e, mset_eq, mset_ne, if_pos, if_neg, Int.reduceAdd, Int.reduceSub, Int.reduceMul, Int.reduceNeg, Int.reduceLT, Int.reduceLE, Int.reduceEq, Int.cast_ofNat_Int, eq_self, and_true, true_and, ite_self, true_or, or_true, false_or, or_false, and_false, false_and, not_true_eq_false, not_false_eq_true, if_true, if_false, e_HallReader_readCaller_0, e_HallReader_readCaller_18, e_HallReader_readCaller_28, e_HallReader_readCaller_56, e_HallReader_readCaller_57, e_HallReader_readCaller_67, ne, qa]
          refine EV_call (CV_mono (q_closeNext (d + 2) hT hc1) ?_)
          intro r2 t5 h5
          have h01 := CkP01 h5
          have hfin : PX (D + 7) 252 T n p s r2 t5 := PX_fin (fun c i a b e => by rw [tf c i (by omega) (by omega) (by omega)]; exact t3f c i (by omega)) ⟨by rw [tf _ _ (by omega) (by omega) (by omega)]; exact t3f _ _ (by omega), by rw [tf _ _ (by omega) (by omega) (by omega)]; exact t3f _ _ (by omega)⟩ (by omega) hc1 hA h5
          simp (disch := first | assumption | omega) only [rn, wk, al, wr_e, td_e, tm_e, mset_eq, mset_ne, if_pos, if_neg, Int.reduceAdd, Int.reduceSub, Int.reduceMul, Int.reduceNeg, Int.reduceLT, Int.reduceLE, Int.reduceEq, Int.cast_ofNat_Int, eq_self, and_true, true_and, ite_self, true_or, or_true, false_or, or_false, and_false, false_and, not_true_eq_false, not_false_eq_true, if_true, if_false, e_HallReader_readCaller_0, e_HallReader_readCaller_18, e_HallReader_readCaller_28, e_HallReader_readCaller_56, e_HallReader_readCaller_57, e_HallReader_readCaller_67]
          exact hfin
        · subst e
          have ff : Ftf s t3 := fun c i x => by rw [f3 c i x]; exact tt c i (by omega)
          have hfin : PX (D + 7) 252 T n p s 0 t3 := by
            rcases g with ⟨nok, g8⟩ | ⟨ok3, tk, g8⟩
            all_goals
              refine PX_no ff g8 g9 (flt_p (by omega)) (no _ _ (fun u r w h => ?_))
              rcases h with ⟨a, h⟩ | ⟨a, ⟨b, h⟩ | ⟨b, c, h⟩ | ⟨b, c, ⟨e, h⟩ | ⟨e, ⟨g, h⟩ | ⟨g, i, h⟩ | ⟨g, i, h⟩⟩⟩⟩
              all_goals first | exact h | contradiction
          simp (disch := first | assumption | omega) only [rn, wk, al, wr_e, td_e, tm_e, mset_eq, mset_ne, if_pos, if_neg, Int.reduceAdd, Int.reduceSub, Int.reduceMul, Int.reduceNeg, Int.reduceLT, Int.reduceLE, Int.reduceEq, Int.cast_ofNat_Int, eq_self, and_true, true_and, ite_self, true_or, or_true, false_or, or_false, and_false, false_and, not_true_eq_false, not_false_eq_true, if_true, if_false, e_HallReader_readCaller_0, e_HallReader_readCaller_18, e_HallReader_readCaller_28, e_HallReader_readCaller_56, e_HallReader_readCaller_57, e_HallReader_readCaller_67]
          exact hfin
      · subst e
        have ff : Ftf s t2 := fun c i x => by rw [f2 c i x]; exact f c i (by omega)
        have hfin : PX (D + 7) 252 T n p s 0 t2 := by
          refine PX_no ff g8 g9 (flt_p (by omega)) (no _ _ (fun u r w h => ?_))
          rcases h with ⟨a, h⟩ | ⟨a, ⟨b, h⟩ | ⟨b, c, h⟩ | ⟨b, c, ⟨e, h⟩ | ⟨e, ⟨g, h⟩ | ⟨g, i, h⟩ | ⟨g, i, h⟩⟩⟩⟩
          all_goals first | exact h | contradiction
        simp (disch := first | assumption | omega) only [rn, wk, al, wr_e, td_e, tm_e, mset_eq, mset_ne, if_pos, if_neg, Int.reduceAdd, Int.reduceSub, Int.reduceMul, Int.reduceNeg, Int.reduceLT, Int.reduceLE, Int.reduceEq, Int.cast_ofNat_Int, eq_self, and_true, true_and, ite_self, true_or, or_true, false_or, or_false, and_false, false_and, not_true_eq_false, not_false_eq_true, if_true, if_false, e_HallReader_readCaller_0, e_HallReader_readCaller_18, e_HallReader_readCaller_28, e_HallReader_readCaller_56, e_HallReader_readCaller_57, e_HallReader_readCaller_67]
        exact hfin
    · subst e
      have hfin : PX (D + 7) 252 T n p s 0 t := by
        rcases g with ⟨nok, g8⟩ | ⟨ok, tk, g8⟩
        all_goals
          refine PX_no f g8 g9 (flt_p (by omega)) (no _ _ (fun u r w h => ?_))
          rcases h with ⟨a, h⟩ | ⟨a, ⟨b, h⟩ | ⟨b, c, h⟩ | ⟨b, c, ⟨e, h⟩ | ⟨e, ⟨g, h⟩ | ⟨g, i, h⟩ | ⟨g, i, h⟩⟩⟩⟩
          all_goals first | exact h | contradiction
      simp (disch := first | assumption | omega) only [rn, wk, al, wr_e, td_e, tm_e, mset_eq, mset_ne, if_pos, if_neg, Int.reduceAdd, Int.reduceSub, Int.reduceMul, Int.reduceNeg, Int.reduceLT, Int.reduceLE, Int.reduceEq, Int.cast_ofNat_Int, eq_self, and_true, true_and, ite_self, true_or, or_true, false_or, or_false, and_false, false_and, not_true_eq_false, not_false_eq_true, if_true, if_false, e_HallReader_readCaller_0, e_HallReader_readCaller_18, e_HallReader_readCaller_28, e_HallReader_readCaller_56, e_HallReader_readCaller_57, e_HallReader_readCaller_67]
      exact hfin
