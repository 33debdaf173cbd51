/-! ===== H2: mornings, the end of a step of the reference ===== -/
theorem st_279 (D : Nat) {T : Int → Int} {n p : Int} (hT : TX T n) {x : Mem} (hx : Rs_ T n p x) (k m q op : Int) (G : Int → Mem → Prop) (K : ∀ r y, RkP T n p x (cOk T n p) 2 r y → G r y) : EV (D + 7) o_R_morningStep 279 [] [137, k, m, q, op, 6] x G := by
  rw [e_R_morningStep_279]
  simp (disch := first | assumption | omega) only [rn, wk, al, wr_e, td_e, tm_e, mset_eq, mset_ne, if_pos, if_neg, Int.reduceAdd, Int.reduceSub, Int.reduceMul, Int.reduceNeg, Int.reduceLT, Int.reduceLE, Int.reduceEq, Int.cast_ofNat_Int, eq_self, and_true, true_and, ite_self, true_or, or_true, false_or, or_false, and_false, false_and, not_true_eq_false, not_false_eq_true, if_true, if_false]
  refine EV_call (CV_mono (r_wantSign (D + 4) hT hx) ?_)
  intro r y h
  have h01 := RkP01 h
  have hy := K r y h
  simp (disch := first | assumption | omega) only [rn, wk, al, wr_e, td_e, tm_e, mset_eq, mset_ne, if_pos, if_neg, Int.reduceAdd, Int.reduceSub, Int.reduceMul, Int.reduceNeg, Int.reduceLT, Int.reduceLE, Int.reduceEq, Int.cast_ofNat_Int, eq_self, and_true, true_and, ite_self, true_or, or_true, false_or, or_false, and_false, false_and, not_true_eq_false, not_false_eq_true, if_true, if_false]
  exact hy
theorem st_170 (D : Nat) {T : Int → Int} {n p : Int} (hT : TX T n) {w : Mem} (hw : Rs_ T n p w) (k m q op : Int) (hm : w 138 3479 = m) (hmb : 0 ≤ m ∧ m < 60) (G : Int → Mem → Prop) (K : ∀ v, (∀ c i, ¬ (c = 137 ∧ 12 ≤ i ∧ i ≤ 15) → ¬ (c = 138 ∧ i = 3479) → v c i = w c i) → v 138 3479 = m + 1 → Rs_ T n (tke T n p) v → CV (D + 7) 264 [137, k, q] v (fun r x => (r = 0 ∧ G 0 x) ∨ (r = 1 ∧ EV (D + 7) o_R_morningStep 197 [] [137, k, m, q, op, 6] x G))) : EV (D + 7) o_R_morningStep 170 [] [137, k, m, q, op, 6] w G := by
  obtain ⟨v, hv⟩ : ∃ v, v = mset w 138 3479 (m + 1) := ⟨_, rfl⟩
  have vf : ∀ c i, ¬ (c = 138 ∧ i = 3479) → v c i = w c i := fun c i h => by rw [hv, mset_ne (by omega)]
  have v9 : v 138 3479 = m + 1 := by rw [hv, mset_eq rfl rfl]
  have vr : Rs_ T n p v := Rs_w (fun i _ => vf _ _ (by omega)) (fun i => vf _ _ (by omega)) hw
  rw [e_R_morningStep_170]
  simp (disch := first | assumption | omega) only [rn, wk, al, wr_e, td_e, tm_e, mset_eq, mset_ne, if_pos, if_neg, Int.reduceAdd, Int.reduceSub, Int.reduceMul, Int.reduceNeg, Int.reduceLT, Int.reduceLE, Int.reduceEq, Int.cast_ofNat_Int, eq_self, and_true, true_and, ite_self, true_or, or_true, false_or, or_false, and_false, false_and, not_true_eq_false, not_false_eq_true, if_true, if_false, hm, ← hv]
  refine EV_call (CV_mono (r_ahd (D + 5) hT vr) ?_)
  rintro r x ⟨a, b⟩
  refine EV_call (CV_mono (K x (fun c i h1 h2 => by rw [a c i h1]; exact vf c i h2) (by rw [a _ _ (by omega)]; exact v9) b) ?_)
  rintro r2 y (⟨e, hy⟩ | ⟨e, hy⟩)
  · subst e
    simp (disch := first | assumption | omega) only [rn, wk, al, wr_e, td_e, tm_e, mset_eq, mset_ne, if_pos, if_neg, Int.reduceAdd, Int.reduceSub, Int.reduceMul, Int.reduceNeg, Int.reduceLT, Int.reduceLE, Int.reduceEq, Int.cast_ofNat_Int, eq_self, and_true, true_and, ite_self, true_or, or_true, false_or, or_false, and_false, false_and, not_true_eq_false, not_false_eq_true, if_true, if_false]
    exact hy
  · subst e
    simp (disch := first | assumption | omega) only [rn, wk, al, wr_e, td_e, tm_e, mset_eq, mset_ne, if_pos, if_neg, Int.reduceAdd, Int.reduceSub, Int.reduceMul, Int.reduceNeg, Int.reduceLT, Int.reduceLE, Int.reduceEq, Int.cast_ofNat_Int, eq_self, and_true, true_and, ite_self, true_or, or_true, false_or, or_false, and_false, false_and, not_true_eq_false, not_false_eq_true, if_true, if_false]
    exact hy
theorem st_197p (D : Nat) (k m q : Int) (x : Mem) (G : Int → Mem → Prop) (hk : k ≠ 17) (h : EV (D + 7) o_R_morningStep 279 [] [137, k, m, q, 0, 6] x G) : EV (D + 7) o_R_morningStep 197 [] [137, k, m, q, 0, 6] x G := by
  rw [e_R_morningStep_197]
  simp (disch := first | assumption | omega) only [rn, wk, al, wr_e, td_e, tm_e, mset_eq, mset_ne, if_pos, if_neg, Int.reduceAdd, Int.reduceSub, Int.reduceMul, Int.reduceNeg, Int.reduceLT, Int.reduceLE, Int.reduceEq, Int.cast_ofNat_Int, eq_self, and_true, true_and, ite_self, true_or, or_true, false_or, or_false, and_false, false_and, not_true_eq_false, not_false_eq_true, if_true, if_false, e_R_morningStep_0, e_R_morningStep_37, e_R_morningStep_41, e_R_morningStep_42, e_R_morningStep_69, e_R_morningStep_75, e_R_morningStep_97, e_R_morningStep_117, e_R_morningStep_132, e_R_morningStep_133, e_R_morningStep_170, e_R_morningStep_197, e_R_morningStep_222, hk]
  exact h
theorem st_197o (D : Nat) (k m q e : Int) (x : Mem) (G : Int → Mem → Prop) (hk : k = 15 ∨ k = 16) (he : x 137 22 = e) (heb : 0 ≤ e ∧ e < 3) (h : EV (D + 7) o_R_morningStep 279 [] [137, k, m, q, 1, 6] (mset (mset x 145 e m) 137 22 (e + 1)) G) : EV (D + 7) o_R_morningStep 197 [] [137, k, m, q, 1, 6] x G := by
  have hk2 : k ≠ 17 := by omega
  rw [e_R_morningStep_197]
  simp (disch := first | assumption | omega) only [rn, wk, al, wr_e, td_e, tm_e, mset_eq, mset_ne, if_pos, if_neg, Int.reduceAdd, Int.reduceSub, Int.reduceMul, Int.reduceNeg, Int.reduceLT, Int.reduceLE, Int.reduceEq, Int.cast_ofNat_Int, eq_self, and_true, true_and, ite_self, true_or, or_true, false_or, or_false, and_false, false_and, not_true_eq_false, not_false_eq_true, if_true, if_false, e_R_morningStep_0, e_R_morningStep_37, e_R_morningStep_41, e_R_morningStep_42, e_R_morningStep_69, e_R_morningStep_75, e_R_morningStep_97, e_R_morningStep_117, e_R_morningStep_132, e_R_morningStep_133, e_R_morningStep_170, e_R_morningStep_197, e_R_morningStep_222, hk2, he]
  exact h
theorem st_197e (D : Nat) (m q e l : Int) (x : Mem) (G : Int → Mem → Prop) (hq : 3972 ≤ q ∧ q + 5 < 4340) (he : x 137 22 = e) (heb : 0 < e ∧ e ≤ 3) (hl : x 145 (e - 1) = l) (hlb : 0 ≤ l ∧ l < 60) (h : EV (D + 7) o_R_morningStep 279 [] [137, 17, m, q, 0, 6] (mset (mset (mset x 137 22 (e - 1)) 138 (q + 4) l) 138 (3972 + 6 * l + 4) m) G) : EV (D + 7) o_R_morningStep 197 [] [137, 17, m, q, 0, 6] x G := by
  rw [e_R_morningStep_197]
  simp (disch := first | assumption | omega) only [rn, wk, al, wr_e, td_e, tm_e, mset_eq, mset_ne, if_pos, if_neg, Int.reduceAdd, Int.reduceSub, Int.reduceMul, Int.reduceNeg, Int.reduceLT, Int.reduceLE, Int.reduceEq, Int.cast_ofNat_Int, eq_self, and_true, true_and, ite_self, true_or, or_true, false_or, or_false, and_false, false_and, not_true_eq_false, not_false_eq_true, if_true, if_false, e_R_morningStep_0, e_R_morningStep_37, e_R_morningStep_41, e_R_morningStep_42, e_R_morningStep_69, e_R_morningStep_75, e_R_morningStep_97, e_R_morningStep_117, e_R_morningStep_132, e_R_morningStep_133, e_R_morningStep_170, e_R_morningStep_197, e_R_morningStep_222, he, hl]
  exact h
