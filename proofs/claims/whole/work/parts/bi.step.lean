/-! ===== H2: mornings, a step of the reference ===== -/
theorem lp_147 (d : Nat) (k m q op : Int) (hq : 3972 ≤ q ∧ q + 5 < 4340) (u : Mem) (G : Int → Mem → Prop) (K : ∀ w, (∀ c j, ¬ (c = 138 ∧ q + 1 ≤ j ∧ j ≤ q + 5) → w c j = u c j) → (∀ j, 1 ≤ j ∧ j ≤ 5 → w 138 (q + j) = 0) → EV d o_R_morningStep 170 [] [137, k, m, q, op, 6] w G) : ∀ (n : Nat) (i : Int) (w : Mem), 1 ≤ i → i + n = 6 → (∀ c j, ¬ (c = 138 ∧ q + 1 ≤ j ∧ j ≤ q + 5) → w c j = u c j) → (∀ j, 1 ≤ j ∧ j < i → w 138 (q + j) = 0) → EV d o_R_morningStep 147 [] [137, k, m, q, op, i] w G := by
  intro n
  induction n with
  | zero =>
    intro i w h0 hi hf h1
    have ei : i = 6 := by omega
    subst ei
    have hx := K w hf (fun j hj => h1 j (by omega))
    rw [e_R_morningStep_147]
    simp (disch := first | assumption | omega) only [rn, wk, al, wr_e, td_e, tm_e, mset_eq, mset_ne, if_pos, if_neg, Int.reduceAdd, Int.reduceSub, Int.reduceMul, Int.reduceNeg, Int.reduceLT, Int.reduceLE, Int.reduceEq, Int.cast_ofNat_Int, eq_self, and_true, true_and, ite_self, true_or, or_true, false_or, or_false, and_false, false_and, not_true_eq_false, not_false_eq_true, if_true, if_false]
    exact hx
  | succ n ih =>
    intro i w h0 hi hf h1
    have hx := ih (i + 1) (mset w 138 (q + i) 0) (by omega) (by omega) (fun c j hc => by rw [mset_ne (by omega)]; exact hf c j hc) (fun j hj => by
      by_cases e : j = i
      · rw [e, mset_eq rfl rfl]
      · rw [mset_ne (by omega)]; exact h1 j (by omega))
    rw [e_R_morningStep_147]
    simp (disch := first | assumption | omega) only [rn, wk, al, wr_e, td_e, tm_e, mset_eq, mset_ne, if_pos, if_neg, Int.reduceAdd, Int.reduceSub, Int.reduceMul, Int.reduceNeg, Int.reduceLT, Int.reduceLE, Int.reduceEq, Int.cast_ofNat_Int, eq_self, and_true, true_and, ite_self, true_or, or_true, false_or, or_false, and_false, false_and, not_true_eq_false, not_false_eq_true, if_true, if_false]
    exact hx
def kw (T : Int → Int) (n p : Int) : Int := if tkk T n p = 1 then pm (wnT T n p) else -1
theorem st_2 (D : Nat) {T : Int → Int} {n p : Int} (hT : TX T n) {u : Mem} (hu : Rs_ T n p u) (m e : Int) (hm : u 138 3479 = m) (hmb : 0 ≤ m ∧ m < 61) (he : u 137 22 = e) (hk : kw T n p < 10 ∨ 18 < kw T n p ∨ (kw T n p = 17 ∧ e = 0)) : CV (D + 4) 263 [137] u (NoR u (flt T n p 2) (tkq T n p)) := by
  have qw := r_words (D + 1) hT hu
  have qf := q_Rfails (D + 2) u 2 hu
  obtain ⟨k, hkk⟩ : ∃ k, k = kw T n p := ⟨_, rfl⟩
  have qw' : sem (D + 3) 235 [137, 0] u = some (k, u) := by rw [hkk]; exact qw
  clear qw
  rw [← hkk] at hk
  have hq : NoR u (flt T n p 2) (tkq T n p) 0 (mset (mset u 137 18 (flt T n p 2)) 137 17 (tkq T n p)) := NoR_f (fun _ _ _ _ _ => rfl)
  apply c_R_morningStep
  rcases hk with h | h | ⟨h, h0⟩
  · simp (disch := first | assumption | omega) only [rn, wk, al, wr_e, td_e, tm_e, mset_eq, mset_ne, if_pos, if_neg, Int.reduceAdd, Int.reduceSub, Int.reduceMul, Int.reduceNeg, Int.reduceLT, Int.reduceLE, Int.reduceEq, Int.cast_ofNat_Int, eq_self, and_true, true_and, ite_self, true_or, or_true, false_or, or_false, and_false, false_and, not_true_eq_false, not_false_eq_true, if_true, if_false, e_R_morningStep_0, e_R_morningStep_37, e_R_morningStep_41, e_R_morningStep_42, e_R_morningStep_69, e_R_morningStep_75, e_R_morningStep_97, e_R_morningStep_117, e_R_morningStep_132, e_R_morningStep_133, e_R_morningStep_197, e_R_morningStep_222, e_R_morningStep_279, qw', hm, qf]
    exact hq
  · simp (disch := first | assumption | omega) only [rn, wk, al, wr_e, td_e, tm_e, mset_eq, mset_ne, if_pos, if_neg, Int.reduceAdd, Int.reduceSub, Int.reduceMul, Int.reduceNeg, Int.reduceLT, Int.reduceLE, Int.reduceEq, Int.cast_ofNat_Int, eq_self, and_true, true_and, ite_self, true_or, or_true, false_or, or_false, and_false, false_and, not_true_eq_false, not_false_eq_true, if_true, if_false, e_R_morningStep_0, e_R_morningStep_37, e_R_morningStep_41, e_R_morningStep_42, e_R_morningStep_69, e_R_morningStep_75, e_R_morningStep_97, e_R_morningStep_117, e_R_morningStep_132, e_R_morningStep_133, e_R_morningStep_197, e_R_morningStep_222, e_R_morningStep_279, qw', hm, qf]
    exact hq
  · subst h
    rw [h0] at he
    simp (disch := first | assumption | omega) only [rn, wk, al, wr_e, td_e, tm_e, mset_eq, mset_ne, if_pos, if_neg, Int.reduceAdd, Int.reduceSub, Int.reduceMul, Int.reduceNeg, Int.reduceLT, Int.reduceLE, Int.reduceEq, Int.cast_ofNat_Int, eq_self, and_true, true_and, ite_self, true_or, or_true, false_or, or_false, and_false, false_and, not_true_eq_false, not_false_eq_true, if_true, if_false, e_R_morningStep_0, e_R_morningStep_37, e_R_morningStep_41, e_R_morningStep_42, e_R_morningStep_69, e_R_morningStep_75, e_R_morningStep_97, e_R_morningStep_117, e_R_morningStep_132, e_R_morningStep_133, e_R_morningStep_197, e_R_morningStep_222, e_R_morningStep_279, qw', hm, he, qf]
    exact hq
theorem st_6 (D : Nat) {T : Int → Int} {n p : Int} (hT : TX T n) {u : Mem} (hu : Rs_ T n p u) (m : Int) (hm : u 138 3479 = m) (hmb : 0 ≤ m ∧ m < 61) (h23 : u 137 23 = 30) (hk : 10 ≤ kw T n p ∧ kw T n p ≤ 18 ∧ kw T n p ≠ 17) : CV (D + 4) 263 [137] u (NoR u (flt T n p 6) (tkq T n p)) := by
  have qw := r_words (D + 1) hT hu
  have qf := q_Rfails (D + 2) u 6 hu
  obtain ⟨k, hkk⟩ : ∃ k, k = kw T n p := ⟨_, rfl⟩
  have qw' : sem (D + 3) 235 [137, 0] u = some (k, u) := by rw [hkk]; exact qw
  clear qw
  rw [← hkk] at hk
  have hq : NoR u (flt T n p 6) (tkq T n p) 0 (mset (mset u 137 18 (flt T n p 6)) 137 17 (tkq T n p)) := NoR_f (fun _ _ _ _ _ => rfl)
  apply c_R_morningStep
  by_cases c15 : k = 15
  · subst c15
    simp (disch := first | assumption | omega) only [rn, wk, al, wr_e, td_e, tm_e, mset_eq, mset_ne, if_pos, if_neg, Int.reduceAdd, Int.reduceSub, Int.reduceMul, Int.reduceNeg, Int.reduceLT, Int.reduceLE, Int.reduceEq, Int.cast_ofNat_Int, eq_self, and_true, true_and, ite_self, true_or, or_true, false_or, or_false, and_false, false_and, not_true_eq_false, not_false_eq_true, if_true, if_false, e_R_morningStep_0, e_R_morningStep_37, e_R_morningStep_41, e_R_morningStep_42, e_R_morningStep_69, e_R_morningStep_75, e_R_morningStep_97, e_R_morningStep_117, e_R_morningStep_132, e_R_morningStep_133, e_R_morningStep_197, e_R_morningStep_222, e_R_morningStep_279, qw', hm, h23, qf]
    exact hq
  · by_cases c16 : k = 16
    · subst c16
      simp (disch := first | assumption | omega) only [rn, wk, al, wr_e, td_e, tm_e, mset_eq, mset_ne, if_pos, if_neg, Int.reduceAdd, Int.reduceSub, Int.reduceMul, Int.reduceNeg, Int.reduceLT, Int.reduceLE, Int.reduceEq, Int.cast_ofNat_Int, eq_self, and_true, true_and, ite_self, true_or, or_true, false_or, or_false, and_false, false_and, not_true_eq_false, not_false_eq_true, if_true, if_false, e_R_morningStep_0, e_R_morningStep_37, e_R_morningStep_41, e_R_morningStep_42, e_R_morningStep_69, e_R_morningStep_75, e_R_morningStep_97, e_R_morningStep_117, e_R_morningStep_132, e_R_morningStep_133, e_R_morningStep_197, e_R_morningStep_222, e_R_morningStep_279, qw', hm, h23, qf]
      exact hq
    · simp (disch := first | assumption | omega) only [rn, wk, al, wr_e, td_e, tm_e, mset_eq, mset_ne, if_pos, if_neg, Int.reduceAdd, Int.reduceSub, Int.reduceMul, Int.reduceNeg, Int.reduceLT, Int.reduceLE, Int.reduceEq, Int.cast_ofNat_Int, eq_self, and_true, true_and, ite_self, true_or, or_true, false_or, or_false, and_false, false_and, not_true_eq_false, not_false_eq_true, if_true, if_false, e_R_morningStep_0, e_R_morningStep_37, e_R_morningStep_41, e_R_morningStep_42, e_R_morningStep_69, e_R_morningStep_75, e_R_morningStep_97, e_R_morningStep_117, e_R_morningStep_132, e_R_morningStep_133, e_R_morningStep_197, e_R_morningStep_222, e_R_morningStep_279, qw', hm, h23, c15, c16, qf]
      exact hq
theorem st_7 (D : Nat) {T : Int → Int} {n p : Int} (hT : TX T n) {u : Mem} (hu : Rs_ T n p u) (m : Int) (hm : u 138 3479 = m) (hmb : 0 ≤ m ∧ m < 61) (h23 : u 137 23 ≠ 30) (h22 : u 137 22 = 3) (hk : kw T n p = 15 ∨ kw T n p = 16) : CV (D + 4) 263 [137] u (NoR u (flt T n p 7) (tkq T n p)) := by
  have qw := r_words (D + 1) hT hu
  have qf := q_Rfails (D + 2) u 7 hu
  obtain ⟨k, hkk⟩ : ∃ k, k = kw T n p := ⟨_, rfl⟩
  have qw' : sem (D + 3) 235 [137, 0] u = some (k, u) := by rw [hkk]; exact qw
  clear qw
  rw [← hkk] at hk
  have hq : NoR u (flt T n p 7) (tkq T n p) 0 (mset (mset u 137 18 (flt T n p 7)) 137 17 (tkq T n p)) := NoR_f (fun _ _ _ _ _ => rfl)
  apply c_R_morningStep
  rcases hk with e | e
  · subst e
    simp (disch := first | assumption | omega) only [rn, wk, al, wr_e, td_e, tm_e, mset_eq, mset_ne, if_pos, if_neg, Int.reduceAdd, Int.reduceSub, Int.reduceMul, Int.reduceNeg, Int.reduceLT, Int.reduceLE, Int.reduceEq, Int.cast_ofNat_Int, eq_self, and_true, true_and, ite_self, true_or, or_true, false_or, or_false, and_false, false_and, not_true_eq_false, not_false_eq_true, if_true, if_false, e_R_morningStep_0, e_R_morningStep_37, e_R_morningStep_41, e_R_morningStep_42, e_R_morningStep_69, e_R_morningStep_75, e_R_morningStep_97, e_R_morningStep_117, e_R_morningStep_132, e_R_morningStep_133, e_R_morningStep_197, e_R_morningStep_222, e_R_morningStep_279, qw', hm, h23, h22, qf]
    exact hq
  · subst e
    simp (disch := first | assumption | omega) only [rn, wk, al, wr_e, td_e, tm_e, mset_eq, mset_ne, if_pos, if_neg, Int.reduceAdd, Int.reduceSub, Int.reduceMul, Int.reduceNeg, Int.reduceLT, Int.reduceLE, Int.reduceEq, Int.cast_ofNat_Int, eq_self, and_true, true_and, ite_self, true_or, or_true, false_or, or_false, and_false, false_and, not_true_eq_false, not_false_eq_true, if_true, if_false, e_R_morningStep_0, e_R_morningStep_37, e_R_morningStep_41, e_R_morningStep_42, e_R_morningStep_69, e_R_morningStep_75, e_R_morningStep_97, e_R_morningStep_117, e_R_morningStep_132, e_R_morningStep_133, e_R_morningStep_197, e_R_morningStep_222, e_R_morningStep_279, qw', hm, h23, h22, qf]
    exact hq
/-- a step that is begun: its row stands there, empty -/
theorem st_go (D : Nat) {T : Int → Int} {n p : Int} (hT : TX T n) {u : Mem} (hu : Rs_ T n p u) (m y e k op : Int) (hm : u 138 3479 = m) (hmb : 0 ≤ m ∧ m < 60) (h23 : u 137 23 = y) (hy : 0 ≤ y ∧ y ≤ 30) (h22 : u 137 22 = e) (hk : kw T n p = k) (hkb : 10 ≤ k ∧ k ≤ 18) (h17 : k = 17 → e ≠ 0) (h30 : k ≠ 17 → y ≠ 30) (h3 : k = 15 ∨ k = 16 → e ≠ 3) (hop : op = if k = 15 ∨ k = 16 then 1 else 0) (G : Int → Mem → Prop) (K : ∀ w, (∀ c j, ¬ (c = 138 ∧ 3972 + 6 * m ≤ j ∧ j ≤ 3972 + 6 * m + 5) → ¬ (c = 137 ∧ j = 23) → w c j = u c j) → w 138 (3972 + 6 * m) = k → (∀ j, 1 ≤ j ∧ j ≤ 5 → w 138 (3972 + 6 * m + j) = 0) → w 137 23 = (if k = 17 then y else y + 1) → EV (D + 3) o_R_morningStep 170 [] [137, k, m, 3972 + 6 * m, op, 6] w G) : CV (D + 4) 263 [137] u G := by
  have qw := r_words (D + 1) hT hu
  have qw' : sem (D + 3) 235 [137, 0] u = some (k, u) := by rw [← hk]; exact qw
  clear qw
  obtain ⟨y', hy'⟩ : ∃ y', y' = (if k = 17 then y else y + 1) := ⟨_, rfl⟩
  rw [← hy'] at K
  obtain ⟨v, hv⟩ : ∃ v, v = mset (mset u 137 23 y') 138 (3972 + 6 * m) k := ⟨_, rfl⟩
  have vf : ∀ c j, ¬ (c = 138 ∧ j = 3972 + 6 * m) → ¬ (c = 137 ∧ j = 23) → v c j = u c j := fun c j h1 h2 => by rw [hv, mset_ne (by omega), mset_ne (by omega)]
  have v0 : v 138 (3972 + 6 * m) = k := by rw [hv, mset_eq rfl rfl]
  have v23 : v 137 23 = y' := by rw [hv, mset_ne (by omega), mset_eq rfl rfl]
  have hx := lp_147 (D + 3) k m (3972 + 6 * m) op (by omega) v G (fun w wf wz => K w (fun c j h1 h2 => by rw [wf c j (by omega)]; exact vf c j (by omega) h2) (by rw [wf _ _ (by omega)]; exact v0) wz (by rw [wf _ _ (by omega)]; exact v23)) 5 1 v (by omega) (by omega) (fun _ _ _ => rfl) (fun j hj => by omega)
  apply c_R_morningStep
  by_cases c15 : k = 15
  · subst c15
    have e3 := h3 (Or.inl rfl)
    have ey := h30 (by omega)
    have eo : op = 1 := by rw [hop]; rfl
    have e1 : y' = y + 1 := by rw [hy']; rfl
    rw [e1] at hv
    rw [eo] at hx
    simp (disch := first | assumption | omega) only [rn, wk, al, wr_e, td_e, tm_e, mset_eq, mset_ne, if_pos, if_neg, Int.reduceAdd, Int.reduceSub, Int.reduceMul, Int.reduceNeg, Int.reduceLT, Int.reduceLE, Int.reduceEq, Int.cast_ofNat_Int, eq_self, and_true, true_and, ite_self, true_or, or_true, false_or, or_false, and_false, false_and, not_true_eq_false, not_false_eq_true, if_true, if_false, e_R_morningStep_0, e_R_morningStep_37, e_R_morningStep_41, e_R_morningStep_42, e_R_morningStep_69, e_R_morningStep_75, e_R_morningStep_97, e_R_morningStep_117, e_R_morningStep_132, e_R_morningStep_133, e_R_morningStep_197, e_R_morningStep_222, e_R_morningStep_279, qw', hm, h23, h22, ← hv]
    exact hx
  · by_cases c16 : k = 16
    · subst c16
      have e3 := h3 (Or.inr rfl)
      have ey := h30 (by omega)
      have eo : op = 1 := by rw [hop]; rfl
      have e1 : y' = y + 1 := by rw [hy']; rfl
      rw [e1] at hv
      rw [eo] at hx
      simp (disch := first | assumption | omega) only [rn, wk, al, wr_e, td_e, tm_e, mset_eq, mset_ne, if_pos, if_neg, Int.reduceAdd, Int.reduceSub, Int.reduceMul, Int.reduceNeg, Int.reduceLT, Int.reduceLE, Int.reduceEq, Int.cast_ofNat_Int, eq_self, and_true, true_and, ite_self, true_or, or_true, false_or, or_false, and_false, false_and, not_true_eq_false, not_false_eq_true, if_true, if_false, e_R_morningStep_0, e_R_morningStep_37, e_R_morningStep_41, e_R_morningStep_42, e_R_morningStep_69, e_R_morningStep_75, e_R_morningStep_97, e_R_morningStep_117, e_R_morningStep_132, e_R_morningStep_133, e_R_morningStep_197, e_R_morningStep_222, e_R_morningStep_279, qw', hm, h23, h22, ← hv]
      exact hx
    · have eo : op = 0 := by rw [hop, if_neg (by omega)]
      rw [eo] at hx
      by_cases c17 : k = 17
      · subst c17
        have ee := h17 rfl
        have e1 : y' = y := by rw [hy']; rfl
        have e2 : y + 0 = y := by omega
        rw [e1] at hv
        simp (disch := first | assumption | omega) only [rn, wk, al, wr_e, td_e, tm_e, mset_eq, mset_ne, if_pos, if_neg, Int.reduceAdd, Int.reduceSub, Int.reduceMul, Int.reduceNeg, Int.reduceLT, Int.reduceLE, Int.reduceEq, Int.cast_ofNat_Int, eq_self, and_true, true_and, ite_self, true_or, or_true, false_or, or_false, and_false, false_and, not_true_eq_false, not_false_eq_true, if_true, if_false, e_R_morningStep_0, e_R_morningStep_37, e_R_morningStep_41, e_R_morningStep_42, e_R_morningStep_69, e_R_morningStep_75, e_R_morningStep_97, e_R_morningStep_117, e_R_morningStep_132, e_R_morningStep_133, e_R_morningStep_197, e_R_morningStep_222, e_R_morningStep_279, qw', hm, h23, h22, e2, ← hv]
        exact hx
      · have ey := h30 c17
        have e1 : y' = y + 1 := by rw [hy', if_neg c17]
        rw [e1] at hv
        simp (disch := first | assumption | omega) only [rn, wk, al, wr_e, td_e, tm_e, mset_eq, mset_ne, if_pos, if_neg, Int.reduceAdd, Int.reduceSub, Int.reduceMul, Int.reduceNeg, Int.reduceLT, Int.reduceLE, Int.reduceEq, Int.cast_ofNat_Int, eq_self, and_true, true_and, ite_self, true_or, or_true, false_or, or_false, and_false, false_and, not_true_eq_false, not_false_eq_true, if_true, if_false, e_R_morningStep_0, e_R_morningStep_37, e_R_morningStep_41, e_R_morningStep_42, e_R_morningStep_69, e_R_morningStep_75, e_R_morningStep_97, e_R_morningStep_117, e_R_morningStep_132, e_R_morningStep_133, e_R_morningStep_197, e_R_morningStep_222, e_R_morningStep_279, qw', hm, h23, h22, c15, c16, c17, ← hv]
        exact hx
