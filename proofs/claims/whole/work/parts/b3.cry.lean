/-! ===== H2: hall, cries of both readers ===== -/
def CFin (T : Int → Int) (n : Int) (u : Mem) (c k x0 x1 x2 pe r : Int) (w : Mem) : Prop := r = 1 ∧ (∀ d i, ¬ (d = 137 ∧ 12 ≤ i ∧ i ≤ 15) → ¬ (d = 138 ∧ (i = 4332 ∨ i = 3527 + 11 * c ∨ (3528 + 11 * c + 3 * k ≤ i ∧ i < 3531 + 11 * c + 3 * k))) → w d i = u d i) ∧ w 138 (3527 + 11 * c) = k + 1 ∧ w 138 (3528 + 11 * c + 3 * k) = x0 ∧ w 138 (3528 + 11 * c + 3 * k + 1) = x1 ∧ w 138 (3528 + 11 * c + 3 * k + 2) = x2 ∧ Rs_ T n pe w
/-- a cry, in the reference -/
def CyP (T : Int → Int) (n p1 p2 p3 p4 p5 k1 cr : Int) (u : Mem) (r : Int) (w : Mem) : Prop := (¬ isNm T n p1 → NoR u (flt T n p1 2) (tkq T n p1) r w) ∧ (isNm T n p1 → k1 = -1 → NoR u (flt T n p1 3) (tkq T n p1) r w) ∧ (isNm T n p1 → k1 ≠ -1 → cr = 3 → NoR u (flt T n p1 6) (tkq T n p1) r w) ∧ (isNm T n p1 → k1 ≠ -1 → cr ≠ 3 → ¬ nOk T n p2 1 99 → NoR u (flt T n p2 (nF T n p2)) (tkq T n p2) r w) ∧ (isNm T n p1 → k1 ≠ -1 → cr ≠ 3 → nOk T n p2 1 99 → tkk T n p3 ≠ 2 → CFin T n u k1 cr (dvT T n p2) 0 0 p3 r w) ∧ (isNm T n p1 → k1 ≠ -1 → cr ≠ 3 → nOk T n p2 1 99 → tkk T n p3 = 2 → ¬ nOk T n p3 1 99 → NoR u (flt T n p3 (nF T n p3)) (tkq T n p3) r w) ∧ (isNm T n p1 → k1 ≠ -1 → cr ≠ 3 → nOk T n p2 1 99 → tkk T n p3 = 2 → nOk T n p3 1 99 → tkk T n p4 ≠ 2 → CFin T n u k1 cr (dvT T n p2) (dvT T n p3) 0 p4 r w) ∧ (isNm T n p1 → k1 ≠ -1 → cr ≠ 3 → nOk T n p2 1 99 → tkk T n p3 = 2 → nOk T n p3 1 99 → tkk T n p4 = 2 → ¬ nOk T n p4 1 99 → NoR u (flt T n p4 (nF T n p4)) (tkq T n p4) r w) ∧ (isNm T n p1 → k1 ≠ -1 → cr ≠ 3 → nOk T n p2 1 99 → tkk T n p3 = 2 → nOk T n p3 1 99 → tkk T n p4 = 2 → nOk T n p4 1 99 → CFin T n u k1 cr (dvT T n p2) (dvT T n p3) (dvT T n p4) p5 r w)
theorem r_newCallerTo (d : Nat) {T : Int → Int} {n p : Int} (hT : TX T n) {s u : Mem} (hu : Rs_ T n p u) (hc : u 138 3475 = s 57 4) (hb : 0 ≤ s 57 4 ∧ s 57 4 ≤ 5) (to : Int) (hto : 0 ≤ to ∧ to < 5208) : CV (d + 5) 255 [137, to] u (OkP T n p u 75 (s 57 4) to) := by
  apply c_R_newCallerTo
  simp (disch := first | assumption | omega) only [rn, wk, al, wr_e, td_e, tm_e, mset_eq, mset_ne, if_pos, if_neg, Int.reduceAdd, Int.reduceSub, Int.reduceMul, Int.reduceNeg, Int.reduceLT, Int.reduceLE, Int.reduceEq, Int.cast_ofNat_Int, eq_self, and_true, true_and, ite_self, true_or, or_true, false_or, or_false, and_false, false_and, not_true_eq_false, not_false_eq_true, if_true, if_false, e_R_newCallerTo_0, hc]
  refine EV_call (CV_mono (r_oldOne d hT hu 75 (s 57 4) to (by omega) (by omega) (by omega) hto) ?_)
  intro r w h
  have h01 : r = 0 ∨ r = 1 := by
    rcases h with ⟨e, -⟩ | ⟨e, -⟩
    · exact Or.inr e
    · exact Or.inl e
  simp (disch := first | assumption | omega) only [rn, wk, al, wr_e, td_e, tm_e, mset_eq, mset_ne, if_pos, if_neg, Int.reduceAdd, Int.reduceSub, Int.reduceMul, Int.reduceNeg, Int.reduceLT, Int.reduceLE, Int.reduceEq, Int.cast_ofNat_Int, eq_self, and_true, true_and, ite_self, true_or, or_true, false_or, or_false, and_false, false_and, not_true_eq_false, not_false_eq_true, if_true, if_false, e_R_newCallerTo_0]
  exact h
theorem HPu_l {s u : Mem} (h : HPu s u) : ∀ c, 0 ≤ c ∧ c < s 57 4 → (0 ≤ s 64 c ∧ s 64 c ≤ 3) ∧ u 138 (3472 + (55 + 11 * c)) = s 64 c ∧ ∀ k i, 0 ≤ k ∧ k < 3 → 0 ≤ i ∧ i < 3 → s 64 c ≤ k → u 138 (3472 + (56 + 11 * c + 3 * k + i)) = 0 := by
  intro c hc
  obtain ⟨vc, -, -, ⟨l1, l2⟩, -, -, -, -, zr⟩ := h
  unfold VC at vc
  have vc4 : s 57 4 ≤ 5 := vc.2.2.2.2.1.2
  have a := (l1 c hc).2.1
  have b := (l2 c hc).2.1
  have z := (zr c (by omega)).2
  exact ⟨a, b, fun k i hk hi h => z k i hk hi (fun _ => h)⟩
theorem r_cry (D : Nat) {T : Int → Int} {n p p1 p2 p3 p4 p5 k1 : Int} (h1 : p1 = tke T n p) (h2 : p2 = tke T n p1) (h3 : p3 = tke T n p2) (h4 : p4 = tke T n p3) (h5 : p5 = tke T n p4) (hT : TX T n) {s u0 u : Mem} (hu : RlH T n s u0 u p) (hk1 : k1 = (ixa (s 58) (nmT T n p1) 11 (s 57 4))) : CV (D + 7) 254 [137] u (CyP T n p1 p2 p3 p4 p5 k1 (s 64 k1) u) := by
  obtain ⟨hp, hr, -, -⟩ := hu
  obtain ⟨c0, m1, m2, m3, m4, m5, m0⟩ := HPu_c hp
  have k1b := ixa_b (s 58) (nmT T n p1) 11 (m := s 57 4) (by omega)
  rw [← hk1] at k1b
  have ixc : ∀ (v : Mem), (∀ i, v 139 i = u 139 i) → ixa (v 139) (nmT T n p1) 75 (s 57 4) = k1 := fun v h => by
    rw [hk1, ← (HPu_n hp _).2.2]
    exact ixa_congr (by omega) (fun i _ _ => h _)
  apply c_R_aCry
  simp (disch := first | assumption | omega) only [rn, wk, al, wr_e, td_e, tm_e, mset_eq, mset_ne, if_pos, if_neg, Int.reduceAdd, Int.reduceSub, Int.reduceMul, Int.reduceNeg, Int.reduceLT, Int.reduceLE, Int.reduceEq, Int.cast_ofNat_Int, eq_self, and_true, true_and, ite_self, true_or, or_true, false_or, or_false, and_false, false_and, not_true_eq_false, not_false_eq_true, if_true, if_false, e_R_aCry_0, e_R_aCry_63, e_R_aCry_73, e_R_aCry_115, e_R_aCry_148, e_R_aCry_154]
  refine EV_call (CV_mono (r_ahd (D + 4) hT hr) ?_)
  rintro r0 v ⟨a, b⟩
  rw [← h1] at b
  have v139 : ∀ i, v 139 i = u 139 i := fun i => a _ _ (by omega)
  have vm : v 138 3475 = s 57 4 := by rw [a _ _ (by omega)]; exact m4
  obtain ⟨bn, hbn, qn⟩ := r_isName (D + 3) hT b
  have tail : (isNm T n p1 → k1 ≠ -1 → s 64 k1 ≠ 3) → ∀ z2, EV (D + 6) o_R_aCry 63 [] [137, 4332, z2, 0, 0] v (CyP T n p1 p2 p3 p4 p5 k1 (s 64 k1) u) := by
    intro hne z2
    rw [e_R_aCry_63]
    simp (disch := first | assumption | omega) only [rn, wk, al, wr_e, td_e, tm_e, mset_eq, mset_ne, if_pos, if_neg, Int.reduceAdd, Int.reduceSub, Int.reduceMul, Int.reduceNeg, Int.reduceLT, Int.reduceLE, Int.reduceEq, Int.cast_ofNat_Int, eq_self, and_true, true_and, ite_self, true_or, or_true, false_or, or_false, and_false, false_and, not_true_eq_false, not_false_eq_true, if_true, if_false]
    refine EV_call (CV_mono (r_newCallerTo (D + 1) hT b (s := s) vm (by omega) 4332 (by omega)) ?_)
    intro r x h
    unfold OkP at h
    rw [ixc v v139, ← h2] at h
    rcases h with ⟨e, on1, ne1, xf, xv, xr⟩ | ⟨e, xf, x17, ⟨on, x18⟩ | ⟨on, en, x18⟩⟩
    · subst e
      have n3 := hne on1 ne1
      have kb : 0 ≤ k1 ∧ k1 < s 57 4 := by omega
      obtain ⟨l1, l2, l3⟩ := HPu_l hp k1 kb
      obtain ⟨cr, hcr⟩ : ∃ cr, cr = s 64 k1 := ⟨_, rfl⟩
      rw [← hcr] at n3 l1 l2 l3 ⊢
      have xu : ∀ c i, ¬ (c = 137 ∧ 12 ≤ i ∧ i ≤ 15) → ¬ (c = 138 ∧ i = 4332) → x c i = u c i := fun c i y1 y2 => by rw [xf c i y1 y2, a c i y1]
      have xc : x 138 (3527 + 11 * k1) = cr := by rw [xu _ _ (by omega) (by omega), ← l2]; congr 1; omega
      have xz : ∀ i, 0 ≤ i ∧ i < 3 → x 138 (3528 + 11 * k1 + 3 * cr + i) = 0 := fun i hi => by
        rw [xu _ _ (by omega) (by omega), ← l3 cr i (by omega) hi (by omega)]; congr 1; omega
      have e1 : 3472 + (54 + 11 * k1) = 3526 + 11 * k1 := by omega
      have e2 : 3526 + 11 * k1 + 1 = 3527 + 11 * k1 := by omega
      have e3 : 3526 + 11 * k1 + 2 + 3 * cr = 3528 + 11 * k1 + 3 * cr := by omega
      -- the end
      have fin : ∀ (y : Mem) (x0 x1 x2 pe : Int) (z4 : Int), (∀ c i, ¬ (c = 137 ∧ 12 ≤ i ∧ i ≤ 15) → ¬ (c = 138 ∧ (i = 4332 ∨ (3528 + 11 * k1 + 3 * cr ≤ i ∧ i < 3531 + 11 * k1 + 3 * cr))) → y c i = u c i) → y 138 (3528 + 11 * k1 + 3 * cr) = x0 → y 138 (3528 + 11 * k1 + 3 * cr + 1) = x1 → y 138 (3528 + 11 * k1 + 3 * cr + 2) = x2 → Rs_ T n pe y → (∀ w, CFin T n u k1 cr x0 x1 x2 pe 1 w → CyP T n p1 p2 p3 p4 p5 k1 cr u 1 w) → EV (D + 6) o_R_aCry 154 [] [137, 4332, 3526 + 11 * k1, 3528 + 11 * k1 + 3 * cr, z4] y (CyP T n p1 p2 p3 p4 p5 k1 cr u) := by
        intro y x0 x1 x2 pe z4 yf y0 y1 y2 yr hw
        have yc : y 138 (3527 + 11 * k1) = cr := by rw [yf _ _ (by omega) (by omega), ← l2]; congr 1; omega
        obtain ⟨z, hz⟩ : ∃ z, z = mset y 138 (3527 + 11 * k1) (cr + 1) := ⟨_, rfl⟩
        have zf : ∀ c i, ¬ (c = 138 ∧ i = 3527 + 11 * k1) → z c i = y c i := fun c i h => by rw [hz, mset_ne (by omega)]
        have hq := hw z ⟨rfl, fun c i h1 h2 => by rw [zf c i (by omega)]; exact yf c i h1 (by omega), by rw [hz, mset_eq rfl rfl], by rw [zf _ _ (by omega)]; exact y0, by rw [zf _ _ (by omega)]; exact y1, by rw [zf _ _ (by omega)]; exact y2, Rs_w (fun i _ => zf _ _ (by omega)) (fun i => zf _ _ (by omega)) yr⟩
        rw [e_R_aCry_154]
        simp (disch := first | assumption | omega) only [rn, wk, al, wr_e, td_e, tm_e, mset_eq, mset_ne, if_pos, if_neg, Int.reduceAdd, Int.reduceSub, Int.reduceMul, Int.reduceNeg, Int.reduceLT, Int.reduceLE, Int.reduceEq, Int.cast_ofNat_Int, eq_self, and_true, true_and, ite_self, true_or, or_true, false_or, or_false, and_false, false_and, not_true_eq_false, not_false_eq_true, if_true, if_false, e2, yc, ← hz]
        exact hq
      simp (disch := first | assumption | omega) only [rn, wk, al, wr_e, td_e, tm_e, mset_eq, mset_ne, if_pos, if_neg, Int.reduceAdd, Int.reduceSub, Int.reduceMul, Int.reduceNeg, Int.reduceLT, Int.reduceLE, Int.reduceEq, Int.cast_ofNat_Int, eq_self, and_true, true_and, ite_self, true_or, or_true, false_or, or_false, and_false, false_and, not_true_eq_false, not_false_eq_true, if_true, if_false, e_R_aCry_0, e_R_aCry_63, e_R_aCry_73, e_R_aCry_115, e_R_aCry_148, xv, q_callerRow, e1, e2, xc, e3]
      refine EV_call (CV_mono (r_number (D + 3) hT xr (3528 + 11 * k1 + 3 * cr) 1 99 (by omega)) ?_)
      rintro r y (⟨e, ok2, yf, yv, yr⟩ | ⟨e, nok2, yf, y18, y17⟩)
      · subst e
        rw [← h3] at yr
        have yu : ∀ c i, ¬ (c = 137 ∧ 12 ≤ i ∧ i ≤ 15) → ¬ (c = 138 ∧ (i = 4332 ∨ i = 3528 + 11 * k1 + 3 * cr)) → y c i = u c i := fun c i y1 y2 => by rw [yf c i y1 (by omega)]; exact xu c i y1 (by omega)
        have yz : ∀ i, 1 ≤ i ∧ i < 3 → y 138 (3528 + 11 * k1 + 3 * cr + i) = 0 := fun i hi => by rw [yf _ _ (by omega) (by omega)]; exact xz i (by omega)
        have y12 := yr.2.1.2.2.2.1
        simp (disch := first | assumption | omega) only [rn, wk, al, wr_e, td_e, tm_e, mset_eq, mset_ne, if_pos, if_neg, Int.reduceAdd, Int.reduceSub, Int.reduceMul, Int.reduceNeg, Int.reduceLT, Int.reduceLE, Int.reduceEq, Int.cast_ofNat_Int, eq_self, and_true, true_and, ite_self, true_or, or_true, false_or, or_false, and_false, false_and, not_true_eq_false, not_false_eq_true, if_true, if_false, e_R_aCry_0, e_R_aCry_63, e_R_aCry_73, e_R_aCry_115, e_R_aCry_148]
        rw [e_R_aCry_118]
        by_cases t3 : tkk T n p3 = 2
        · have k12 : y 137 12 = 3 := by rw [y12, t3]; rfl
          simp (disch := first | assumption | omega) only [rn, wk, al, wr_e, td_e, tm_e, mset_eq, mset_ne, if_pos, if_neg, Int.reduceAdd, Int.reduceSub, Int.reduceMul, Int.reduceNeg, Int.reduceLT, Int.reduceLE, Int.reduceEq, Int.cast_ofNat_Int, eq_self, and_true, true_and, ite_self, true_or, or_true, false_or, or_false, and_false, false_and, not_true_eq_false, not_false_eq_true, if_true, if_false, e_R_aCry_0, e_R_aCry_63, e_R_aCry_73, e_R_aCry_115, e_R_aCry_148, k12]
          refine EV_call (CV_mono (r_number (D + 3) hT yr (3528 + 11 * k1 + 3 * cr + 1) 1 99 (by omega)) ?_)
          rintro r z (⟨e, ok3, zf, zv, zr⟩ | ⟨e, nok3, zf, z18, z17⟩)
          · subst e
            rw [← h4] at zr
            have z12 := zr.2.1.2.2.2.1
            simp (disch := first | assumption | omega) only [rn, wk, al, wr_e, td_e, tm_e, mset_eq, mset_ne, if_pos, if_neg, Int.reduceAdd, Int.reduceSub, Int.reduceMul, Int.reduceNeg, Int.reduceLT, Int.reduceLE, Int.reduceEq, Int.cast_ofNat_Int, eq_self, and_true, true_and, ite_self, true_or, or_true, false_or, or_false, and_false, false_and, not_true_eq_false, not_false_eq_true, if_true, if_false, e_R_aCry_0, e_R_aCry_63, e_R_aCry_73, e_R_aCry_115, e_R_aCry_148]
            rw [e_R_aCry_118]
            by_cases t4 : tkk T n p4 = 2
            · have j12 : z 137 12 = 3 := by rw [z12, t4]; rfl
              simp (disch := first | assumption | omega) only [rn, wk, al, wr_e, td_e, tm_e, mset_eq, mset_ne, if_pos, if_neg, Int.reduceAdd, Int.reduceSub, Int.reduceMul, Int.reduceNeg, Int.reduceLT, Int.reduceLE, Int.reduceEq, Int.cast_ofNat_Int, eq_self, and_true, true_and, ite_self, true_or, or_true, false_or, or_false, and_false, false_and, not_true_eq_false, not_false_eq_true, if_true, if_false, e_R_aCry_0, e_R_aCry_63, e_R_aCry_73, e_R_aCry_115, e_R_aCry_148, j12]
              refine EV_call (CV_mono (r_number (D + 3) hT zr (3528 + 11 * k1 + 3 * cr + 2) 1 99 (by omega)) ?_)
              rintro r q (⟨e, ok4, qf, qv, qr⟩ | ⟨e, nok4, qf, q18, q17⟩)
              · subst e
                rw [← h5] at qr
                have hx := fin q (dvT T n p2) (dvT T n p3) (dvT T n p4) p5 3 (fun c i g1 g2 => by rw [qf c i g1 (by omega), zf c i g1 (by omega)]; exact yu c i g1 (by omega)) (by rw [qf _ _ (by omega) (by omega), zf _ _ (by omega) (by omega)]; exact yv) (by rw [qf _ _ (by omega) (by omega)]; exact zv) qv qr (fun w hq => by
                  refine ⟨?_, ?_, ?_, ?_, ?_, ?_, ?_, ?_, ?_⟩ <;> (intros; first | contradiction | exact hq))
                simp (disch := first | assumption | omega) only [rn, wk, al, wr_e, td_e, tm_e, mset_eq, mset_ne, if_pos, if_neg, Int.reduceAdd, Int.reduceSub, Int.reduceMul, Int.reduceNeg, Int.reduceLT, Int.reduceLE, Int.reduceEq, Int.cast_ofNat_Int, eq_self, and_true, true_and, ite_self, true_or, or_true, false_or, or_false, and_false, false_and, not_true_eq_false, not_false_eq_true, if_true, if_false, e_R_aCry_0, e_R_aCry_63, e_R_aCry_73, e_R_aCry_115, e_R_aCry_148]
                rw [e_R_aCry_118]
                simp (disch := first | assumption | omega) only [rn, wk, al, wr_e, td_e, tm_e, mset_eq, mset_ne, if_pos, if_neg, Int.reduceAdd, Int.reduceSub, Int.reduceMul, Int.reduceNeg, Int.reduceLT, Int.reduceLE, Int.reduceEq, Int.cast_ofNat_Int, eq_self, and_true, true_and, ite_self, true_or, or_true, false_or, or_false, and_false, false_and, not_true_eq_false, not_false_eq_true, if_true, if_false, e_R_aCry_0, e_R_aCry_63, e_R_aCry_73, e_R_aCry_115, e_R_aCry_148]
                exact hx
              · subst e
                have hq : NoR u (flt T n p4 (nF T n p4)) (tkq T n p4) 0 q := ⟨rfl, fun c i g1 g2 g3 => by rw [qf c i (by omega), zf c i (by omega) (by omega)]; exact yu c i (by omega) (by omega), q18, q17⟩
                have hp2 : CyP T n p1 p2 p3 p4 p5 k1 cr u 0 q := by
                  refine ⟨?_, ?_, ?_, ?_, ?_, ?_, ?_, ?_, ?_⟩ <;> (intros; first | contradiction | exact hq)
                simp (disch := first | assumption | omega) only [rn, wk, al, wr_e, td_e, tm_e, mset_eq, mset_ne, if_pos, if_neg, Int.reduceAdd, Int.reduceSub, Int.reduceMul, Int.reduceNeg, Int.reduceLT, Int.reduceLE, Int.reduceEq, Int.cast_ofNat_Int, eq_self, and_true, true_and, ite_self, true_or, or_true, false_or, or_false, and_false, false_and, not_true_eq_false, not_false_eq_true, if_true, if_false, e_R_aCry_0, e_R_aCry_63, e_R_aCry_73, e_R_aCry_115, e_R_aCry_148]
                exact hp2
            · have j12 : z 137 12 ≠ 3 := by
                rw [z12]; unfold kr
                repeat' split
                all_goals omega
              have hx := fin z (dvT T n p2) (dvT T n p3) 0 p4 3 (fun c i g1 g2 => by rw [zf c i g1 (by omega)]; exact yu c i g1 (by omega)) (by rw [zf _ _ (by omega) (by omega)]; exact yv) zv (by rw [zf _ _ (by omega) (by omega)]; exact yz 2 (by omega)) zr (fun w hq => by
                refine ⟨?_, ?_, ?_, ?_, ?_, ?_, ?_, ?_, ?_⟩ <;> (intros; first | contradiction | exact hq))
              simp (disch := first | assumption | omega) only [rn, wk, al, wr_e, td_e, tm_e, mset_eq, mset_ne, if_pos, if_neg, Int.reduceAdd, Int.reduceSub, Int.reduceMul, Int.reduceNeg, Int.reduceLT, Int.reduceLE, Int.reduceEq, Int.cast_ofNat_Int, eq_self, and_true, true_and, ite_self, true_or, or_true, false_or, or_false, and_false, false_and, not_true_eq_false, not_false_eq_true, if_true, if_false, e_R_aCry_0, e_R_aCry_63, e_R_aCry_73, e_R_aCry_115, e_R_aCry_148, j12]
              rw [e_R_aCry_118]
              simp (disch := first | assumption | omega) only [rn, wk, al, wr_e, td_e, tm_e, mset_eq, mset_ne, if_pos, if_neg, Int.reduceAdd, Int.reduceSub, Int.reduceMul, Int.reduceNeg, Int.reduceLT, Int.reduceLE, Int.reduceEq, Int.cast_ofNat_Int, eq_self, and_true, true_and, ite_self, true_or, or_true, false_or, or_false, and_false, false_and, not_true_eq_false, not_false_eq_true, if_true, if_false, e_R_aCry_0, e_R_aCry_63, e_R_aCry_73, e_R_aCry_115, e_R_aCry_148]
              exact hx
          · subst e
            have hq : NoR u (flt T n p3 (nF T n p3)) (tkq T n p3) 0 z := ⟨rfl, fun c i g1 g2 g3 => by rw [zf c i (by omega)]; exact yu c i (by omega) (by omega), z18, z17⟩
            have hp2 : CyP T n p1 p2 p3 p4 p5 k1 cr u 0 z := by
              refine ⟨?_, ?_, ?_, ?_, ?_, ?_, ?_, ?_, ?_⟩ <;> (intros; first | contradiction | exact hq)
            simp (disch := first | assumption | omega) only [rn, wk, al, wr_e, td_e, tm_e, mset_eq, mset_ne, if_pos, if_neg, Int.reduceAdd, Int.reduceSub, Int.reduceMul, Int.reduceNeg, Int.reduceLT, Int.reduceLE, Int.reduceEq, Int.cast_ofNat_Int, eq_self, and_true, true_and, ite_self, true_or, or_true, false_or, or_false, and_false, false_and, not_true_eq_false, not_false_eq_true, if_true, if_false, e_R_aCry_0, e_R_aCry_63, e_R_aCry_73, e_R_aCry_115, e_R_aCry_148]
            exact hp2
        · have k12 : y 137 12 ≠ 3 := by
            rw [y12]; unfold kr
            repeat' split
            all_goals omega
          have hx := fin y (dvT T n p2) 0 0 p3 3 (fun c i g1 g2 => yu c i g1 (by omega)) yv (yz 1 (by omega)) (yz 2 (by omega)) yr (fun w hq => by
            refine ⟨?_, ?_, ?_, ?_, ?_, ?_, ?_, ?_, ?_⟩ <;> (intros; first | contradiction | exact hq))
          simp (disch := first | assumption | omega) only [rn, wk, al, wr_e, td_e, tm_e, mset_eq, mset_ne, if_pos, if_neg, Int.reduceAdd, Int.reduceSub, Int.reduceMul, Int.reduceNeg, Int.reduceLT, Int.reduceLE, Int.reduceEq, Int.cast_ofNat_Int, eq_self, and_true, true_and, ite_self, true_or, or_true, false_or, or_false, and_false, false_and, not_true_eq_false, not_false_eq_true, if_true, if_false, e_R_aCry_0, e_R_aCry_63, e_R_aCry_73, e_R_aCry_115, e_R_aCry_148, k12]
          rw [e_R_aCry_118]
          simp (disch := first | assumption | omega) only [rn, wk, al, wr_e, td_e, tm_e, mset_eq, mset_ne, if_pos, if_neg, Int.reduceAdd, Int.reduceSub, Int.reduceMul, Int.reduceNeg, Int.reduceLT, Int.reduceLE, Int.reduceEq, Int.cast_ofNat_Int, eq_self, and_true, true_and, ite_self, true_or, or_true, false_or, or_false, and_false, false_and, not_true_eq_false, not_false_eq_true, if_true, if_false, e_R_aCry_0, e_R_aCry_63, e_R_aCry_73, e_R_aCry_115, e_R_aCry_148, k12]
          rw [e_R_aCry_118]
          simp (disch := first | assumption | omega) only [rn, wk, al, wr_e, td_e, tm_e, mset_eq, mset_ne, if_pos, if_neg, Int.reduceAdd, Int.reduceSub, Int.reduceMul, Int.reduceNeg, Int.reduceLT, Int.reduceLE, Int.reduceEq, Int.cast_ofNat_Int, eq_self, and_true, true_and, ite_self, true_or, or_true, false_or, or_false, and_false, false_and, not_true_eq_false, not_false_eq_true, if_true, if_false, e_R_aCry_0, e_R_aCry_63, e_R_aCry_73, e_R_aCry_115, e_R_aCry_148]
          exact hx
      · subst e
        have hq : NoR u (flt T n p2 (nF T n p2)) (tkq T n p2) 0 y := ⟨rfl, fun c i g1 g2 g3 => by rw [yf c i (by omega)]; exact xu c i (by omega) (by omega), y18, y17⟩
        have hp2 : CyP T n p1 p2 p3 p4 p5 k1 cr u 0 y := by
          refine ⟨?_, ?_, ?_, ?_, ?_, ?_, ?_, ?_, ?_⟩ <;> (intros; first | contradiction | exact hq)
        simp (disch := first | assumption | omega) only [rn, wk, al, wr_e, td_e, tm_e, mset_eq, mset_ne, if_pos, if_neg, Int.reduceAdd, Int.reduceSub, Int.reduceMul, Int.reduceNeg, Int.reduceLT, Int.reduceLE, Int.reduceEq, Int.cast_ofNat_Int, eq_self, and_true, true_and, ite_self, true_or, or_true, false_or, or_false, and_false, false_and, not_true_eq_false, not_false_eq_true, if_true, if_false, e_R_aCry_0, e_R_aCry_63, e_R_aCry_73, e_R_aCry_115, e_R_aCry_148]
        exact hp2
    · subst e
      have hq : NoR u (flt T n p1 2) (tkq T n p1) 0 x := ⟨rfl, fun c i y1 y2 y3 => by rw [xf c i (by omega) (by omega)]; exact a c i (by omega), x18, x17⟩
      have hp2 : CyP T n p1 p2 p3 p4 p5 k1 (s 64 k1) u 0 x := by
        refine ⟨?_, ?_, ?_, ?_, ?_, ?_, ?_, ?_, ?_⟩ <;> (intros; first | contradiction | exact hq)
      simp (disch := first | assumption | omega) only [rn, wk, al, wr_e, td_e, tm_e, mset_eq, mset_ne, if_pos, if_neg, Int.reduceAdd, Int.reduceSub, Int.reduceMul, Int.reduceNeg, Int.reduceLT, Int.reduceLE, Int.reduceEq, Int.cast_ofNat_Int, eq_self, and_true, true_and, ite_self, true_or, or_true, false_or, or_false, and_false, false_and, not_true_eq_false, not_false_eq_true, if_true, if_false, e_R_aCry_0, e_R_aCry_63, e_R_aCry_73, e_R_aCry_115, e_R_aCry_148, e_R_aCry_154]
      exact hp2
    · subst e
      have hq : NoR u (flt T n p1 3) (tkq T n p1) 0 x := ⟨rfl, fun c i y1 y2 y3 => by rw [xf c i (by omega) (by omega)]; exact a c i (by omega), x18, x17⟩
      have hp2 : CyP T n p1 p2 p3 p4 p5 k1 (s 64 k1) u 0 x := by
        refine ⟨?_, ?_, ?_, ?_, ?_, ?_, ?_, ?_, ?_⟩ <;> (intros; first | contradiction | exact hq)
      simp (disch := first | assumption | omega) only [rn, wk, al, wr_e, td_e, tm_e, mset_eq, mset_ne, if_pos, if_neg, Int.reduceAdd, Int.reduceSub, Int.reduceMul, Int.reduceNeg, Int.reduceLT, Int.reduceLE, Int.reduceEq, Int.cast_ofNat_Int, eq_self, and_true, true_and, ite_self, true_or, or_true, false_or, or_false, and_false, false_and, not_true_eq_false, not_false_eq_true, if_true, if_false, e_R_aCry_0, e_R_aCry_63, e_R_aCry_73, e_R_aCry_115, e_R_aCry_148, e_R_aCry_154]
      exact hp2
  rcases hbn with ⟨e, on1⟩ | ⟨e, on1⟩
  · subst e
    have qf := r_findHere (D + 3) hT b on1.1 75 (s 57 4) (by omega) (by omega) (by omega)
    rw [ixc v v139] at qf
    by_cases ne1 : k1 = -1
    · have hx := tail (fun _ h => absurd ne1 h) (-1)
      rw [ne1] at qf
      simp (disch := first | assumption | omega) only [rn, wk, al, wr_e, td_e, tm_e, mset_eq, mset_ne, if_pos, if_neg, Int.reduceAdd, Int.reduceSub, Int.reduceMul, Int.reduceNeg, Int.reduceLT, Int.reduceLE, Int.reduceEq, Int.cast_ofNat_Int, eq_self, and_true, true_and, ite_self, true_or, or_true, false_or, or_false, and_false, false_and, not_true_eq_false, not_false_eq_true, if_true, if_false, e_R_aCry_0, e_R_aCry_73, e_R_aCry_115, e_R_aCry_148, e_R_aCry_154, qn, vm, qf]
      exact hx
    · have kb : 0 ≤ k1 ∧ k1 < s 57 4 := by omega
      obtain ⟨l1, l2, l3⟩ := HPu_l hp k1 kb
      have e1 : 3472 + (54 + 11 * k1) = 3526 + 11 * k1 := by omega
      have e2 : 3526 + 11 * k1 + 1 = 3527 + 11 * k1 := by omega
      have vc : v 138 (3527 + 11 * k1) = s 64 k1 := by rw [a _ _ (by omega), ← l2]; congr 1; omega
      by_cases c3 : s 64 k1 = 3
      · have q6 := q_Rfails (D + 5) v 6 b
        have hq : NoR u (flt T n p1 6) (tkq T n p1) 0 (mset (mset v 137 18 (flt T n p1 6)) 137 17 (tkq T n p1)) := NoR_f (fun c i y1 y2 y3 => a c i (by omega))
        have hp2 : CyP T n p1 p2 p3 p4 p5 k1 (s 64 k1) u 0 (mset (mset v 137 18 (flt T n p1 6)) 137 17 (tkq T n p1)) := by
          refine ⟨?_, ?_, ?_, ?_, ?_, ?_, ?_, ?_, ?_⟩ <;> (intros; first | contradiction | exact hq)
        rw [c3] at vc
        simp (disch := first | assumption | omega) only [rn, wk, al, wr_e, td_e, tm_e, mset_eq, mset_ne, if_pos, if_neg, Int.reduceAdd, Int.reduceSub, Int.reduceMul, Int.reduceNeg, Int.reduceLT, Int.reduceLE, Int.reduceEq, Int.cast_ofNat_Int, eq_self, and_true, true_and, ite_self, true_or, or_true, false_or, or_false, and_false, false_and, not_true_eq_false, not_false_eq_true, if_true, if_false, e_R_aCry_0, e_R_aCry_73, e_R_aCry_115, e_R_aCry_148, e_R_aCry_154, qn, vm, qf, ne1, q_callerRow, e1, e2, vc, q6]
        exact hp2
      · have hx := tail (fun _ _ => c3) k1
        simp (disch := first | assumption | omega) only [rn, wk, al, wr_e, td_e, tm_e, mset_eq, mset_ne, if_pos, if_neg, Int.reduceAdd, Int.reduceSub, Int.reduceMul, Int.reduceNeg, Int.reduceLT, Int.reduceLE, Int.reduceEq, Int.cast_ofNat_Int, eq_self, and_true, true_and, ite_self, true_or, or_true, false_or, or_false, and_false, false_and, not_true_eq_false, not_false_eq_true, if_true, if_false, e_R_aCry_0, e_R_aCry_73, e_R_aCry_115, e_R_aCry_148, e_R_aCry_154, qn, vm, qf, ne1, q_callerRow, e1, e2, vc, c3]
        exact hx
  · subst e
    have hx := tail (fun h => absurd h on1) 0
    simp (disch := first | assumption | omega) only [rn, wk, al, wr_e, td_e, tm_e, mset_eq, mset_ne, if_pos, if_neg, Int.reduceAdd, Int.reduceSub, Int.reduceMul, Int.reduceNeg, Int.reduceLT, Int.reduceLE, Int.reduceEq, Int.cast_ofNat_Int, eq_self, and_true, true_and, ite_self, true_or, or_true, false_or, or_false, and_false, false_and, not_true_eq_false, not_false_eq_true, if_true, if_false, e_R_aCry_0, e_R_aCry_73, e_R_aCry_115, e_R_aCry_148, e_R_aCry_154, qn]
    exact hx
