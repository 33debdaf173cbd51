/-! ===== H2: hall, calls of both readers ===== -/
def KFin (T : Int → Int) (n : Int) (u : Mem) (c0 k1 y b pe r : Int) (w : Mem) : Prop := r = 1 ∧ (∀ c i, ¬ (c = 137 ∧ 12 ≤ i ∧ i ≤ 15) → ¬ (c = 138 ∧ ((3581 + 3 * c0 ≤ i ∧ i ≤ 3583 + 3 * c0) ∨ i = 3476)) → w c i = u c i) ∧ w 138 (3581 + 3 * c0) = k1 ∧ w 138 (3582 + 3 * c0) = y ∧ w 138 (3583 + 3 * c0) = b ∧ w 138 3476 = c0 + 1 ∧ Rs_ T n pe w
/-- a call, in the reference -/
def KlP (T : Int → Int) (n p p1 p2 p3 p4 p5 k1 cr c0 : Int) (sp : Prop) (u : Mem) (r : Int) (w : Mem) : Prop := (c0 = 8 → NoR u (flt T n p 6) (tkq T n p) r w) ∧ (c0 ≠ 8 → ¬ isNm T n p1 → NoR u (flt T n p1 2) (tkq T n p1) r w) ∧ (c0 ≠ 8 → isNm T n p1 → k1 = -1 → NoR u (flt T n p1 3) (tkq T n p1) r w) ∧ (c0 ≠ 8 → isNm T n p1 → k1 ≠ -1 → ¬ nOk T n p2 0 (cr - 1) → NoR u (flt T n p2 (nF T n p2)) (tkq T n p2) r w) ∧ (c0 ≠ 8 → isNm T n p1 → k1 ≠ -1 → nOk T n p2 0 (cr - 1) → ¬ wOk T n p3 6 → NoR u (flt T n p3 2) (tkq T n p3) r w) ∧ (c0 ≠ 8 → isNm T n p1 → k1 ≠ -1 → nOk T n p2 0 (cr - 1) → wOk T n p3 6 → ¬ nOk T n p4 0 20 → NoR u (flt T n p4 (nF T n p4)) (tkq T n p4) r w) ∧ (c0 ≠ 8 → isNm T n p1 → k1 ≠ -1 → nOk T n p2 0 (cr - 1) → wOk T n p3 6 → nOk T n p4 0 20 → sp → NoR u (flt T n p4 5) (tkq T n p4) r w) ∧ (c0 ≠ 8 → isNm T n p1 → k1 ≠ -1 → nOk T n p2 0 (cr - 1) → wOk T n p3 6 → nOk T n p4 0 20 → ¬ sp → KFin T n u c0 k1 (dvT T n p2) (dvT T n p4) p5 r w)
def mat (w : Mem) (m v k : Int) : Prop := w 138 (3581 + 3 * k) = w 138 (3581 + 3 * m) ∧ w 138 (3582 + 3 * k) = w 138 (3582 + 3 * m) ∧ w 138 (3583 + 3 * k) = v
theorem lp_ac93 (d : Nat) (w : Mem) (m v : Int) (hm : 0 ≤ m ∧ m ≤ 8) (h12 : w 137 12 = 3) (h15 : w 137 15 = v) (h76 : w 138 3476 = m) (Q : Int → Mem → Prop) (f : Mem) (q5 : sem (d + 1) 236 [137, 5] w = some (0, f)) (hN : (∀ k, 0 ≤ k → k < m → ¬ mat w m v k) → ∀ z, EV (d + 1) o_R_aCall 183 [] [137, 3581 + 3 * m, m, z] w Q) (hY : (∃ k, (0 ≤ k ∧ k < m) ∧ mat w m v k) → Q 0 f) : ∀ (n : Nat) (k z : Int), 0 ≤ k → k + n = m → (∀ j, 0 ≤ j → j < k → ¬ mat w m v j) → EV (d + 1) o_R_aCall 93 [] [137, 3581 + 3 * m, k, z] w Q := by
  intro n
  induction n with
  | zero =>
    intro k z h0 hk hj
    have ek : k = m := by omega
    subst ek
    have hx := hN hj z
    rw [e_R_aCall_93]
    simp (disch := first | assumption | omega) only [rn, wk, al, wr_e, td_e, tm_e, mset_eq, mset_ne, if_pos, if_neg, Int.reduceAdd, Int.reduceSub, Int.reduceMul, Int.reduceNeg, Int.reduceLT, Int.reduceLE, Int.reduceEq, Int.cast_ofNat_Int, eq_self, and_true, true_and, ite_self, true_or, or_true, false_or, or_false, and_false, false_and, not_true_eq_false, not_false_eq_true, if_true, if_false, h76]
    exact hx
  | succ n ih =>
    intro k z h0 hk hj
    have e0 : 3472 + (109 + 3 * k) = 3581 + 3 * k := by omega
    have e1 : 3581 + 3 * k + 1 = 3582 + 3 * k := by omega
    have e2 : 3581 + 3 * k + 2 = 3583 + 3 * k := by omega
    have e3 : 3581 + 3 * m + 1 = 3582 + 3 * m := by omega
    have next : ¬ mat w m v k → EV (d + 1) o_R_aCall 93 [] [137, 3581 + 3 * m, k + 1, 3581 + 3 * k] w Q := fun hn => ih (k + 1) (3581 + 3 * k) (by omega) (by omega) (fun j a b => by
      by_cases e : j = k
      · rw [e]; exact hn
      · exact hj j a (by omega))
    rw [e_R_aCall_93]
    by_cases c1 : w 138 (3581 + 3 * k) = w 138 (3581 + 3 * m)
    · by_cases c2 : w 138 (3582 + 3 * k) = w 138 (3582 + 3 * m)
      · by_cases c3 : w 138 (3583 + 3 * k) = v
        · have hy := hY ⟨k, by omega, c1, c2, c3⟩
          simp (disch := first | assumption | omega) only [rn, wk, al, wr_e, td_e, tm_e, mset_eq, mset_ne, if_pos, if_neg, Int.reduceAdd, Int.reduceSub, Int.reduceMul, Int.reduceNeg, Int.reduceLT, Int.reduceLE, Int.reduceEq, Int.cast_ofNat_Int, eq_self, and_true, true_and, ite_self, true_or, or_true, false_or, or_false, and_false, false_and, not_true_eq_false, not_false_eq_true, if_true, if_false, e_R_aCall_0, e_R_aCall_17, e_R_aCall_89, e_R_aCall_91, e_R_aCall_177, e_R_aCall_198, h76, h12, q_callRow, e0, c1, e1, e3, c2, e2, c3, h15, q5]
          exact hy
        · have hx := next (fun h => c3 h.2.2)
          simp (disch := first | assumption | omega) only [rn, wk, al, wr_e, td_e, tm_e, mset_eq, mset_ne, if_pos, if_neg, Int.reduceAdd, Int.reduceSub, Int.reduceMul, Int.reduceNeg, Int.reduceLT, Int.reduceLE, Int.reduceEq, Int.cast_ofNat_Int, eq_self, and_true, true_and, ite_self, true_or, or_true, false_or, or_false, and_false, false_and, not_true_eq_false, not_false_eq_true, if_true, if_false, e_R_aCall_0, e_R_aCall_17, e_R_aCall_89, e_R_aCall_91, e_R_aCall_177, e_R_aCall_198, h76, h12, q_callRow, e0, c1, e1, e3, c2, e2, c3, h15]
          exact hx
      · have hx := next (fun h => c2 h.2.1)
        simp (disch := first | assumption | omega) only [rn, wk, al, wr_e, td_e, tm_e, mset_eq, mset_ne, if_pos, if_neg, Int.reduceAdd, Int.reduceSub, Int.reduceMul, Int.reduceNeg, Int.reduceLT, Int.reduceLE, Int.reduceEq, Int.cast_ofNat_Int, eq_self, and_true, true_and, ite_self, true_or, or_true, false_or, or_false, and_false, false_and, not_true_eq_false, not_false_eq_true, if_true, if_false, e_R_aCall_0, e_R_aCall_17, e_R_aCall_89, e_R_aCall_91, e_R_aCall_177, e_R_aCall_198, h76, h12, q_callRow, e0, c1, e1, e3, c2]
        exact hx
    · have hx := next (fun h => c1 h.1)
      simp (disch := first | assumption | omega) only [rn, wk, al, wr_e, td_e, tm_e, mset_eq, mset_ne, if_pos, if_neg, Int.reduceAdd, Int.reduceSub, Int.reduceMul, Int.reduceNeg, Int.reduceLT, Int.reduceLE, Int.reduceEq, Int.cast_ofNat_Int, eq_self, and_true, true_and, ite_self, true_or, or_true, false_or, or_false, and_false, false_and, not_true_eq_false, not_false_eq_true, if_true, if_false, e_R_aCall_0, e_R_aCall_17, e_R_aCall_89, e_R_aCall_91, e_R_aCall_177, e_R_aCall_198, h76, h12, q_callRow, e0, c1]
      exact hx
theorem HPu_k {s u : Mem} (h : HPu s u) : ∀ k, 0 ≤ k ∧ k < s 57 5 → s 66 k = 63 * u 138 (3581 + 3 * k) + 21 * u 138 (3582 + 3 * k) + u 138 (3583 + 3 * k) ∧ (0 ≤ u 138 (3581 + 3 * k) ∧ u 138 (3581 + 3 * k) < s 57 4) ∧ (0 ≤ u 138 (3582 + 3 * k) ∧ u 138 (3582 + 3 * k) < 3) ∧ (0 ≤ u 138 (3583 + 3 * k) ∧ u 138 (3583 + 3 * k) ≤ 20) := by
  intro k hk
  have hl := HPu_l h
  have rk := h.2.2.2.2.2.2.1 k hk
  have e1 : (3472 : Int) + (109 + 3 * k) = 3581 + 3 * k := by omega
  have e2 : (3472 : Int) + (110 + 3 * k) = 3582 + 3 * k := by omega
  have e3 : (3472 : Int) + (111 + 3 * k) = 3583 + 3 * k := by omega
  simp only [e1, e2, e3] at rk
  have b := (hl _ rk.2.1).1
  have b' : s 64 (u 138 (3581 + 3 * k)) = win s 57 7 (u 138 (3581 + 3 * k)) := rfl
  exact ⟨rk.1, rk.2.1, by omega, rk.2.2.2⟩
theorem cl_183 (D : Nat) {T : Int → Int} {n p p1 p2 p3 p4 p5 k1 : Int} (h5 : p5 = tke T n p4) (hT : TX T n) {s u z : Mem} (c8 : s 57 5 ≠ 8) (on1 : isNm T n p1) (ne1 : k1 ≠ -1) (ok2 : nOk T n p2 0 (s 64 k1 - 1)) (ok3 : wOk T n p3 6) (hm : 0 ≤ s 57 5 ∧ s 57 5 ≤ 8) (zu : ∀ c i, ¬ (c = 137 ∧ 12 ≤ i ∧ i ≤ 15) → ¬ (c = 138 ∧ (i = 3581 + 3 * s 57 5 ∨ i = 3582 + 3 * s 57 5)) → z c i = u c i) (zv1 : z 138 (3581 + 3 * s 57 5) = k1) (zv2 : z 138 (3582 + 3 * s 57 5) = dvT T n p2) (z76 : z 138 3476 = s 57 5) (zr : Rs_ T n p4 z) (hns : nOk T n p4 0 20 → ¬ (spk s 57 (s 57 5) (63 * k1 + 21 * dvT T n p2 + dvT T n p4))) : ∀ k z3, EV (D + 6) o_R_aCall 183 [] [137, 3581 + 3 * s 57 5, k, z3] z (KlP T n p p1 p2 p3 p4 p5 k1 (s 64 k1) (s 57 5) (spk s 57 (s 57 5) (63 * k1 + 21 * dvT T n p2 + dvT T n p4)) u) := by
  intro k z3
  have e2 : 3581 + 3 * s 57 5 + 2 = 3583 + 3 * s 57 5 := by omega
  rw [e_R_aCall_183]
  simp (disch := first | assumption | omega) only [rn, wk, al, wr_e, td_e, tm_e, mset_eq, mset_ne, if_pos, if_neg, Int.reduceAdd, Int.reduceSub, Int.reduceMul, Int.reduceNeg, Int.reduceLT, Int.reduceLE, Int.reduceEq, Int.cast_ofNat_Int, eq_self, and_true, true_and, ite_self, true_or, or_true, false_or, or_false, and_false, false_and, not_true_eq_false, not_false_eq_true, if_true, if_false, e2]
  refine EV_call (CV_mono (r_number (D + 3) hT zr (3583 + 3 * s 57 5) 0 20 (by omega)) ?_)
  rintro r q (⟨e, ok4, qf, qv, qr⟩ | ⟨e, nok4, qf, q18, q17⟩)
  · subst e
    rw [← h5] at qr
    have nsp := hns ok4
    have q76 : q 138 3476 = s 57 5 := by rw [qf _ _ (by omega) (by omega)]; exact z76
    obtain ⟨q2, hq2⟩ : ∃ q2, q2 = mset q 138 3476 (s 57 5 + 1) := ⟨_, rfl⟩
    have q2f : ∀ c i, ¬ (c = 138 ∧ i = 3476) → q2 c i = q c i := fun c i h => by rw [hq2, mset_ne (by omega)]
    have hq : KFin T n u (s 57 5) k1 (dvT T n p2) (dvT T n p4) p5 1 q2 := by
      refine ⟨rfl, fun c i y1 y2 => by rw [q2f c i (by omega), qf c i y1 (by omega)]; exact zu c i y1 (by omega), ?_, ?_, ?_, by rw [hq2, mset_eq rfl rfl], Rs_w (fun i _ => q2f _ _ (by omega)) (fun i => q2f _ _ (by omega)) qr⟩
      · rw [q2f _ _ (by omega), qf _ _ (by omega) (by omega)]; exact zv1
      · rw [q2f _ _ (by omega), qf _ _ (by omega) (by omega)]; exact zv2
      · rw [q2f _ _ (by omega)]; exact qv
    have hp2 : KlP T n p p1 p2 p3 p4 p5 k1 (s 64 k1) (s 57 5) (spk s 57 (s 57 5) (63 * k1 + 21 * dvT T n p2 + dvT T n p4)) u 1 q2 := by
      refine ⟨?_, ?_, ?_, ?_, ?_, ?_, ?_, ?_⟩ <;> (intros; first | contradiction | exact hq)
    simp (disch := first | assumption | omega) only [rn, wk, al, wr_e, td_e, tm_e, mset_eq, mset_ne, if_pos, if_neg, Int.reduceAdd, Int.reduceSub, Int.reduceMul, Int.reduceNeg, Int.reduceLT, Int.reduceLE, Int.reduceEq, Int.cast_ofNat_Int, eq_self, and_true, true_and, ite_self, true_or, or_true, false_or, or_false, and_false, false_and, not_true_eq_false, not_false_eq_true, if_true, if_false, e_R_aCall_0, e_R_aCall_17, e_R_aCall_89, e_R_aCall_91, e_R_aCall_177, e_R_aCall_183, e_R_aCall_198, q76, ← hq2]
    exact hp2
  · subst e
    have hq : NoR u (flt T n p4 (nF T n p4)) (tkq T n p4) 0 q := ⟨rfl, fun c i y1 y2 y3 => by rw [qf c i (by omega)]; exact zu c i (by omega) (by omega), q18, q17⟩
    have hp2 : KlP T n p p1 p2 p3 p4 p5 k1 (s 64 k1) (s 57 5) (spk s 57 (s 57 5) (63 * k1 + 21 * dvT T n p2 + dvT T n p4)) u 0 q := by
      refine ⟨?_, ?_, ?_, ?_, ?_, ?_, ?_, ?_⟩ <;> (intros; first | contradiction | exact hq)
    simp (disch := first | assumption | omega) only [rn, wk, al, wr_e, td_e, tm_e, mset_eq, mset_ne, if_pos, if_neg, Int.reduceAdd, Int.reduceSub, Int.reduceMul, Int.reduceNeg, Int.reduceLT, Int.reduceLE, Int.reduceEq, Int.cast_ofNat_Int, eq_self, and_true, true_and, ite_self, true_or, or_true, false_or, or_false, and_false, false_and, not_true_eq_false, not_false_eq_true, if_true, if_false, e_R_aCall_0, e_R_aCall_17, e_R_aCall_89, e_R_aCall_91, e_R_aCall_177, e_R_aCall_183, e_R_aCall_198]
    exact hp2
theorem cl_91 (D : Nat) {T : Int → Int} {n p p1 p2 p3 p4 p5 k1 : Int} (h5 : p5 = tke T n p4) (hT : TX T n) {s u z : Mem} (c8 : s 57 5 ≠ 8) (on1 : isNm T n p1) (ne1 : k1 ≠ -1) (ok2 : nOk T n p2 0 (s 64 k1 - 1)) (ok3 : wOk T n p3 6) (hm : 0 ≤ s 57 5 ∧ s 57 5 ≤ 8) (zu : ∀ c i, ¬ (c = 137 ∧ 12 ≤ i ∧ i ≤ 15) → ¬ (c = 138 ∧ (i = 3581 + 3 * s 57 5 ∨ i = 3582 + 3 * s 57 5)) → z c i = u c i) (zv1 : z 138 (3581 + 3 * s 57 5) = k1) (zv2 : z 138 (3582 + 3 * s 57 5) = dvT T n p2) (z76 : z 138 3476 = s 57 5) (zr : Rs_ T n p4 z) (hkk : ∀ k, 0 ≤ k ∧ k < s 57 5 → s 66 k = 63 * u 138 (3581 + 3 * k) + 21 * u 138 (3582 + 3 * k) + u 138 (3583 + 3 * k) ∧ (0 ≤ u 138 (3581 + 3 * k) ∧ u 138 (3581 + 3 * k) < s 57 4) ∧ (0 ≤ u 138 (3582 + 3 * k) ∧ u 138 (3582 + 3 * k) < 3) ∧ (0 ≤ u 138 (3583 + 3 * k) ∧ u 138 (3583 + 3 * k) ≤ 20)) (hk1 : 0 ≤ k1) (hcr : s 64 k1 ≤ 3) : EV (D + 6) o_R_aCall 91 [] [137, 3581 + 3 * s 57 5, 0, 0] z (KlP T n p p1 p2 p3 p4 p5 k1 (s 64 k1) (s 57 5) (spk s 57 (s 57 5) (63 * k1 + 21 * dvT T n p2 + dvT T n p4)) u) := by
  have z12 := zr.2.1.2.2.2.1
  have dy := ok2.2
  have matI : ∀ k, 0 ≤ k → k < s 57 5 → (mat z (s 57 5) (dvT T n p4) k ↔ (u 138 (3581 + 3 * k) = k1 ∧ u 138 (3582 + 3 * k) = dvT T n p2 ∧ u 138 (3583 + 3 * k) = dvT T n p4)) := fun k a1 a2 => by
    unfold mat
    rw [zv1, zv2, zu _ _ (by omega) (by omega), zu 138 (3582 + 3 * k) (by omega) (by omega), zu 138 (3583 + 3 * k) (by omega) (by omega)]
  have tail := fun hns => cl_183 D (p := p) h5 hT c8 on1 ne1 ok2 ok3 hm zu zv1 zv2 z76 zr hns
  rw [e_R_aCall_91]
  simp (disch := first | assumption | omega) only [rn, wk, al, wr_e, td_e, tm_e, mset_eq, mset_ne, if_pos, if_neg, Int.reduceAdd, Int.reduceSub, Int.reduceMul, Int.reduceNeg, Int.reduceLT, Int.reduceLE, Int.reduceEq, Int.cast_ofNat_Int, eq_self, and_true, true_and, ite_self, true_or, or_true, false_or, or_false, and_false, false_and, not_true_eq_false, not_false_eq_true, if_true, if_false]
  by_cases t4 : tkk T n p4 = 2
  · have j12 : z 137 12 = 3 := by rw [z12, t4]; rfl
    have j15 : z 137 15 = dvT T n p4 := zr.2.1.2.2.2.2.1 t4
    refine lp_ac93 (D + 5) z (s 57 5) (dvT T n p4) (by omega) j12 j15 z76 _ _ (q_Rfails (D + 5) z 5 zr) (fun hn z3 => tail (fun ok4 hs => ?_) _ z3) (fun hy => ?_) (s 57 5).toNat 0 0 (by omega) (by omega) (fun j a b => by omega)
    · obtain ⟨k, hk, he⟩ := hs
      have he' : s 66 k = 63 * k1 + 21 * dvT T n p2 + dvT T n p4 := he
      have q := hkk k hk
      have d4 := ok4.2
      exact hn k hk.1 hk.2 ((matI k hk.1 hk.2).2 ⟨by omega, by omega, by omega⟩)
    · obtain ⟨k, hk, hm⟩ := hy
      obtain ⟨g1, g2, g3⟩ := (matI k hk.1 hk.2).1 hm
      have q := hkk k hk
      have ok4 : nOk T n p4 0 20 := ⟨t4, by omega, by omega⟩
      have sp : (spk s 57 (s 57 5) (63 * k1 + 21 * dvT T n p2 + dvT T n p4)) := ⟨k, hk, show s 66 k = _ by omega⟩
      have hq : NoR u (flt T n p4 5) (tkq T n p4) 0 (mset (mset z 137 18 (flt T n p4 5)) 137 17 (tkq T n p4)) := NoR_f (fun c i y1 y2 y3 => zu c i (by omega) (by omega))
      refine ⟨?_, ?_, ?_, ?_, ?_, ?_, ?_, ?_⟩ <;> (intros; first | contradiction | exact hq)
  · have j12 : z 137 12 ≠ 3 := by
      rw [z12]; unfold kr
      repeat' split
      all_goals omega
    have hx := tail (fun h => absurd h.1 t4) 0 0
    rw [e_R_aCall_93]
    by_cases c00 : s 57 5 = 0
    · simp (disch := first | assumption | omega) only [rn, wk, al, wr_e, td_e, tm_e, mset_eq, mset_ne, if_pos, if_neg, Int.reduceAdd, Int.reduceSub, Int.reduceMul, Int.reduceNeg, Int.reduceLT, Int.reduceLE, Int.reduceEq, Int.cast_ofNat_Int, eq_self, and_true, true_and, ite_self, true_or, or_true, false_or, or_false, and_false, false_and, not_true_eq_false, not_false_eq_true, if_true, if_false, z76, c00]
      rw [c00] at hx
      exact hx
    · simp (disch := first | assumption | omega) only [rn, wk, al, wr_e, td_e, tm_e, mset_eq, mset_ne, if_pos, if_neg, Int.reduceAdd, Int.reduceSub, Int.reduceMul, Int.reduceNeg, Int.reduceLT, Int.reduceLE, Int.reduceEq, Int.cast_ofNat_Int, eq_self, and_true, true_and, ite_self, true_or, or_true, false_or, or_false, and_false, false_and, not_true_eq_false, not_false_eq_true, if_true, if_false, z76, j12]
      exact hx
theorem r_call (D : Nat) {T : Int → Int} {n p p1 p2 p3 p4 p5 k1 : Int} (h1 : p1 = tke T n p) (h2 : p2 = tke T n p1) (h3 : p3 = tke T n p2) (h4 : p4 = tke T n p3) (h5 : p5 = tke T n p4) (hT : TX T n) {s u0 u : Mem} (hu : RlH T n s u0 u p) (hk1 : k1 = (ixa (s 58) (nmT T n p1) 11 (s 57 4))) : CV (D + 7) 256 [137] u (KlP T n p p1 p2 p3 p4 p5 k1 (s 64 k1) (s 57 5) (spk s 57 (s 57 5) (63 * k1 + 21 * dvT T n p2 + dvT T n p4)) u) := by
  obtain ⟨hp, hr, -, -⟩ := hu
  obtain ⟨c0, m1, m2, m3, m4, m5, m0⟩ := HPu_c hp
  have k1b := ixa_b (s 58) (nmT T n p1) 11 (m := s 57 4) (by omega)
  rw [← hk1] at k1b
  have hkk := HPu_k hp
  have ixc : ∀ (v : Mem), (∀ i, v 139 i = u 139 i) → ixa (v 139) (nmT T n p1) 75 (s 57 4) = k1 := fun v h => by
    rw [hk1, ← (HPu_n hp _).2.2]
    exact ixa_congr (by omega) (fun i _ _ => h _)
  have qi := q_isFull (D + 5) 4 8 u (by omega)
  have m5' : u 138 (3472 + 4) = s 57 5 := m5
  rw [m5'] at qi
  apply c_R_aCall
  by_cases c8 : s 57 5 = 8
  · rw [if_pos c8] at qi
    have q6 := q_Rfails (D + 5) u 6 hr
    have hq : NoR u (flt T n p 6) (tkq T n p) 0 (mset (mset u 137 18 (flt T n p 6)) 137 17 (tkq T n p)) := NoR_f (fun _ _ _ _ _ => rfl)
    have hp2 : KlP T n p p1 p2 p3 p4 p5 k1 (s 64 k1) (s 57 5) (spk s 57 (s 57 5) (63 * k1 + 21 * dvT T n p2 + dvT T n p4)) u 0 (mset (mset u 137 18 (flt T n p 6)) 137 17 (tkq T n p)) := by
      refine ⟨?_, ?_, ?_, ?_, ?_, ?_, ?_, ?_⟩ <;> (intros; first | contradiction | exact hq)
    simp (disch := first | assumption | omega) only [rn, wk, al, wr_e, td_e, tm_e, mset_eq, mset_ne, if_pos, if_neg, Int.reduceAdd, Int.reduceSub, Int.reduceMul, Int.reduceNeg, Int.reduceLT, Int.reduceLE, Int.reduceEq, Int.cast_ofNat_Int, eq_self, and_true, true_and, ite_self, true_or, or_true, false_or, or_false, and_false, false_and, not_true_eq_false, not_false_eq_true, if_true, if_false, e_R_aCall_0, e_R_aCall_17, e_R_aCall_89, e_R_aCall_91, e_R_aCall_177, e_R_aCall_183, e_R_aCall_198, qi, q6]
    exact hp2
  · rw [if_neg c8] at qi
    have e0 : 3472 + (109 + 3 * s 57 5) = 3581 + 3 * s 57 5 := by omega
    have e1 : 3581 + 3 * s 57 5 + 1 = 3582 + 3 * s 57 5 := by omega
    have e2 : 3581 + 3 * s 57 5 + 2 = 3583 + 3 * s 57 5 := by omega
    simp (disch := first | assumption | omega) only [rn, wk, al, wr_e, td_e, tm_e, mset_eq, mset_ne, if_pos, if_neg, Int.reduceAdd, Int.reduceSub, Int.reduceMul, Int.reduceNeg, Int.reduceLT, Int.reduceLE, Int.reduceEq, Int.cast_ofNat_Int, eq_self, and_true, true_and, ite_self, true_or, or_true, false_or, or_false, and_false, false_and, not_true_eq_false, not_false_eq_true, if_true, if_false, e_R_aCall_0, e_R_aCall_17, e_R_aCall_89, e_R_aCall_91, e_R_aCall_177, e_R_aCall_183, e_R_aCall_198, qi, m5, q_callRow, e0]
    refine EV_call (CV_mono (r_ahd (D + 4) hT hr) ?_)
    rintro r0 v ⟨a, b⟩
    rw [← h1] at b
    refine EV_call (CV_mono (r_newCallerTo (D + 1) hT b (s := s) (by rw [a _ _ (by omega)]; exact m4) (by omega) (3581 + 3 * s 57 5) (by omega)) ?_)
    intro r x h
    unfold OkP at h
    rw [ixc v (fun i => a _ _ (by omega)), ← h2] at h
    rcases h with ⟨e, on1, ne1, xf, xv, xr⟩ | ⟨e, xf, x17, ⟨on, x18⟩ | ⟨on, en, x18⟩⟩
    · subst e
      have kb : 0 ≤ k1 ∧ k1 < s 57 4 := by omega
      obtain ⟨l1, l2, -⟩ := HPu_l hp k1 kb
      have xu : ∀ c i, ¬ (c = 137 ∧ 12 ≤ i ∧ i ≤ 15) → ¬ (c = 138 ∧ i = 3581 + 3 * s 57 5) → x c i = u c i := fun c i y1 y2 => by rw [xf c i y1 y2, a c i y1]
      have f1 : 3472 + (54 + 11 * k1) + 1 = 3527 + 11 * k1 := by omega
      have xc : x 138 (3527 + 11 * k1) = s 64 k1 := by rw [xu _ _ (by omega) (by omega), ← l2]; congr 1; omega
      simp (disch := first | assumption | omega) only [rn, wk, al, wr_e, td_e, tm_e, mset_eq, mset_ne, if_pos, if_neg, Int.reduceAdd, Int.reduceSub, Int.reduceMul, Int.reduceNeg, Int.reduceLT, Int.reduceLE, Int.reduceEq, Int.cast_ofNat_Int, eq_self, and_true, true_and, ite_self, true_or, or_true, false_or, or_false, and_false, false_and, not_true_eq_false, not_false_eq_true, if_true, if_false, e_R_aCall_0, e_R_aCall_17, e_R_aCall_89, e_R_aCall_91, e_R_aCall_177, e_R_aCall_183, e_R_aCall_198, e1, xv, q_callerRow, f1, xc]
      refine EV_call (CV_mono (r_number (D + 3) hT xr (3582 + 3 * s 57 5) 0 (s 64 k1 - 1) (by omega)) ?_)
      rintro r y (⟨e, ok2, yf, yv, yr⟩ | ⟨e, nok2, yf, y18, y17⟩)
      · subst e
        rw [← h3] at yr
        have dy := ok2.2
        simp (disch := first | assumption | omega) only [rn, wk, al, wr_e, td_e, tm_e, mset_eq, mset_ne, if_pos, if_neg, Int.reduceAdd, Int.reduceSub, Int.reduceMul, Int.reduceNeg, Int.reduceLT, Int.reduceLE, Int.reduceEq, Int.cast_ofNat_Int, eq_self, and_true, true_and, ite_self, true_or, or_true, false_or, or_false, and_false, false_and, not_true_eq_false, not_false_eq_true, if_true, if_false, e_R_aCall_0, e_R_aCall_17, e_R_aCall_89, e_R_aCall_91, e_R_aCall_177, e_R_aCall_183, e_R_aCall_198]
        refine EV_call (CV_mono (r_wantWord (D + 3) hT yr 6 9 (by omega) pm_6) ?_)
        rintro r z (⟨e, ok3, zf, zr⟩ | ⟨e, nok3, zf, z18, z17⟩)
        · subst e
          rw [← h4] at zr
          have zu : ∀ c i, ¬ (c = 137 ∧ 12 ≤ i ∧ i ≤ 15) → ¬ (c = 138 ∧ (i = 3581 + 3 * s 57 5 ∨ i = 3582 + 3 * s 57 5)) → z c i = u c i := fun c i y1 y2 => by rw [zf c i y1, yf c i y1 (by omega)]; exact xu c i y1 (by omega)
          have zv1 : z 138 (3581 + 3 * s 57 5) = k1 := by rw [zf _ _ (by omega), yf _ _ (by omega) (by omega)]; exact xv
          have zv2 : z 138 (3582 + 3 * s 57 5) = dvT T n p2 := by rw [zf _ _ (by omega)]; exact yv
          have z76 : z 138 3476 = s 57 5 := by rw [zu _ _ (by omega) (by omega)]; exact m5
          have h91 := cl_91 D (p := p) h5 hT c8 on1 ne1 ok2 ok3 (by omega) zu zv1 zv2 z76 zr hkk (by omega) (by omega)
          simp (disch := first | assumption | omega) only [rn, wk, al, wr_e, td_e, tm_e, mset_eq, mset_ne, if_pos, if_neg, Int.reduceAdd, Int.reduceSub, Int.reduceMul, Int.reduceNeg, Int.reduceLT, Int.reduceLE, Int.reduceEq, Int.cast_ofNat_Int, eq_self, and_true, true_and, ite_self, true_or, or_true, false_or, or_false, and_false, false_and, not_true_eq_false, not_false_eq_true, if_true, if_false, e_R_aCall_0, e_R_aCall_17, e_R_aCall_89, e_R_aCall_177, e_R_aCall_183, e_R_aCall_198]
          exact h91
        · subst e
          have hq : NoR u (flt T n p3 2) (tkq T n p3) 0 z := ⟨rfl, fun c i y1 y2 y3 => by rw [zf c i (by omega), yf c i (by omega) (by omega)]; exact xu c i (by omega) (by omega), z18, z17⟩
          have hp2 : KlP T n p p1 p2 p3 p4 p5 k1 (s 64 k1) (s 57 5) (spk s 57 (s 57 5) (63 * k1 + 21 * dvT T n p2 + dvT T n p4)) u 0 z := by
            refine ⟨?_, ?_, ?_, ?_, ?_, ?_, ?_, ?_⟩ <;> (intros; first | contradiction | exact hq)
          simp (disch := first | assumption | omega) only [rn, wk, al, wr_e, td_e, tm_e, mset_eq, mset_ne, if_pos, if_neg, Int.reduceAdd, Int.reduceSub, Int.reduceMul, Int.reduceNeg, Int.reduceLT, Int.reduceLE, Int.reduceEq, Int.cast_ofNat_Int, eq_self, and_true, true_and, ite_self, true_or, or_true, false_or, or_false, and_false, false_and, not_true_eq_false, not_false_eq_true, if_true, if_false, e_R_aCall_0, e_R_aCall_17, e_R_aCall_89, e_R_aCall_91, e_R_aCall_177, e_R_aCall_183, e_R_aCall_198]
          exact hp2
      · subst e
        have hq : NoR u (flt T n p2 (nF T n p2)) (tkq T n p2) 0 y := ⟨rfl, fun c i y1 y2 y3 => by rw [yf c i (by omega)]; exact xu c i (by omega) (by omega), y18, y17⟩
        have hp2 : KlP T n p p1 p2 p3 p4 p5 k1 (s 64 k1) (s 57 5) (spk s 57 (s 57 5) (63 * k1 + 21 * dvT T n p2 + dvT T n p4)) u 0 y := by
          refine ⟨?_, ?_, ?_, ?_, ?_, ?_, ?_, ?_⟩ <;> (intros; first | contradiction | exact hq)
        simp (disch := first | assumption | omega) only [rn, wk, al, wr_e, td_e, tm_e, mset_eq, mset_ne, if_pos, if_neg, Int.reduceAdd, Int.reduceSub, Int.reduceMul, Int.reduceNeg, Int.reduceLT, Int.reduceLE, Int.reduceEq, Int.cast_ofNat_Int, eq_self, and_true, true_and, ite_self, true_or, or_true, false_or, or_false, and_false, false_and, not_true_eq_false, not_false_eq_true, if_true, if_false, e_R_aCall_0, e_R_aCall_17, e_R_aCall_89, e_R_aCall_91, e_R_aCall_177, e_R_aCall_183, e_R_aCall_198]
        exact hp2
    · subst e
      have hq : NoR u (flt T n p1 2) (tkq T n p1) 0 x := ⟨rfl, fun c i y1 y2 y3 => by rw [xf c i (by omega) (by omega)]; exact a c i (by omega), x18, x17⟩
      have hp2 : KlP T n p p1 p2 p3 p4 p5 k1 (s 64 k1) (s 57 5) (spk s 57 (s 57 5) (63 * k1 + 21 * dvT T n p2 + dvT T n p4)) u 0 x := by
        refine ⟨?_, ?_, ?_, ?_, ?_, ?_, ?_, ?_⟩ <;> (intros; first | contradiction | exact hq)
      simp (disch := first | assumption | omega) only [rn, wk, al, wr_e, td_e, tm_e, mset_eq, mset_ne, if_pos, if_neg, Int.reduceAdd, Int.reduceSub, Int.reduceMul, Int.reduceNeg, Int.reduceLT, Int.reduceLE, Int.reduceEq, Int.cast_ofNat_Int, eq_self, and_true, true_and, ite_self, true_or, or_true, false_or, or_false, and_false, false_and, not_true_eq_false, not_false_eq_true, if_true, if_false, e_R_aCall_0, e_R_aCall_17, e_R_aCall_89, e_R_aCall_91, e_R_aCall_177, e_R_aCall_183, e_R_aCall_198]
      exact hp2
    · subst e
      have hq : NoR u (flt T n p1 3) (tkq T n p1) 0 x := ⟨rfl, fun c i y1 y2 y3 => by rw [xf c i (by omega) (by omega)]; exact a c i (by omega), x18, x17⟩
      have hp2 : KlP T n p p1 p2 p3 p4 p5 k1 (s 64 k1) (s 57 5) (spk s 57 (s 57 5) (63 * k1 + 21 * dvT T n p2 + dvT T n p4)) u 0 x := by
        refine ⟨?_, ?_, ?_, ?_, ?_, ?_, ?_, ?_⟩ <;> (intros; first | contradiction | exact hq)
      simp (disch := first | assumption | omega) only [rn, wk, al, wr_e, td_e, tm_e, mset_eq, mset_ne, if_pos, if_neg, Int.reduceAdd, Int.reduceSub, Int.reduceMul, Int.reduceNeg, Int.reduceLT, Int.reduceLE, Int.reduceEq, Int.cast_ofNat_Int, eq_self, and_true, true_and, ite_self, true_or, or_true, false_or, or_false, and_false, false_and, not_true_eq_false, not_false_eq_true, if_true, if_false, e_R_aCall_0, e_R_aCall_17, e_R_aCall_89, e_R_aCall_91, e_R_aCall_177, e_R_aCall_183, e_R_aCall_198]
      exact hp2
