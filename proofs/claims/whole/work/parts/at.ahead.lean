/-! ===== H2: the reference looks ahead ===== -/
def bta (T : Int → Int) (n k : Int) : Int := if k < n then T k % 256 else -1
def kr (k : Int) : Int := if k = 0 then 0 else if k = 1 then 2 else if k = 2 then 3 else if k = 3 then 4 else 1
def TkR (T : Int → Int) (n p : Int) (u : Mem) : Prop := u 137 11 = n ∧ u 137 13 = tkq T n p ∧ u 137 14 = tke T n p ∧ u 137 12 = kr (tkk T n p) ∧ (tkk T n p = 2 → u 137 15 = dvT T n p) ∧ (tkk T n p = 3 → u 137 15 = T (tkq T n p))
def Fra (u w : Mem) : Prop := ∀ c i, ¬ (c = 137 ∧ 12 ≤ i ∧ i ≤ 15) → w c i = u c i
theorem and_tab : ∀ x : Fin 256, iand_ ((x.val : Int) - 128) 255 = ((x.val : Int) - 128) % 256 := by decide +kernel
theorem and_b {x : Int} (h : -128 ≤ x ∧ x < 128) : iand_ x 255 = x % 256 := by
  have := and_tab ⟨(x + 128).toNat, by omega⟩
  have e : (((x + 128).toNat : Nat) : Int) - 128 = x := by omega
  simp only [e] at this
  exact this
theorem q_byteAt (d : Nat) (u : Mem) (T : Int → Int) (n k : Int) (hT : TX T n) (h1 : ∀ i, 0 ≤ i ∧ i < n → u 144 i = T i) (h11 : u 137 11 = n) (hk : 0 ≤ k) : sem (d + 1) 230 [137, k] u = some (bta T n k, u) := by
  have hn := hT.1
  apply CV_eq; apply c_R_byteAt
  unfold bta
  by_cases c : k < n
  · have e := h1 k ⟨hk, c⟩
    have hb := hT.2 k ⟨hk, c⟩
    have ea := and_b hb
    rw [if_pos c]
    simp (disch := first | assumption | omega) only [rn, wk, al, wr_e, td_e, tm_e, mset_eq, mset_ne, if_pos, if_neg, Int.reduceAdd, Int.reduceSub, Int.reduceMul, Int.reduceNeg, Int.reduceLT, Int.reduceLE, Int.reduceEq, Int.cast_ofNat_Int, eq_self, and_true, true_and, ite_self, true_or, or_true, false_or, or_false, and_false, false_and, not_true_eq_false, not_false_eq_true, if_true, if_false, e_R_byteAt_0, e_R_byteAt_21, e_R_byteAt_22, h11, e, ea]
  · rw [if_neg c]
    simp (disch := first | assumption | omega) only [rn, wk, al, wr_e, td_e, tm_e, mset_eq, mset_ne, if_pos, if_neg, Int.reduceAdd, Int.reduceSub, Int.reduceMul, Int.reduceNeg, Int.reduceLT, Int.reduceLE, Int.reduceEq, Int.cast_ofNat_Int, eq_self, and_true, true_and, ite_self, true_or, or_true, false_or, or_false, and_false, false_and, not_true_eq_false, not_false_eq_true, if_true, if_false, e_R_byteAt_0, e_R_byteAt_21, e_R_byteAt_22, h11]
theorem q_isSmall (d : Nat) (c : Int) (u : Mem) : sem (d + 1) 231 [c] u = some (if 97 ≤ c ∧ c ≤ 122 then 1 else 0, u) := by
  apply CV_eq; apply c_R_isSmall
  by_cases c1 : 97 ≤ c
  · by_cases c2 : c ≤ 122
    · simp (disch := first | assumption | omega) only [rn, wk, al, wr_e, td_e, tm_e, mset_eq, mset_ne, if_pos, if_neg, Int.reduceAdd, Int.reduceSub, Int.reduceMul, Int.reduceNeg, Int.reduceLT, Int.reduceLE, Int.reduceEq, Int.cast_ofNat_Int, eq_self, and_true, true_and, ite_self, true_or, or_true, false_or, or_false, and_false, false_and, not_true_eq_false, not_false_eq_true, if_true, if_false, e_R_isSmall_0, e_R_isSmall_16, e_R_isSmall_17]
    · simp (disch := first | assumption | omega) only [rn, wk, al, wr_e, td_e, tm_e, mset_eq, mset_ne, if_pos, if_neg, Int.reduceAdd, Int.reduceSub, Int.reduceMul, Int.reduceNeg, Int.reduceLT, Int.reduceLE, Int.reduceEq, Int.cast_ofNat_Int, eq_self, and_true, true_and, ite_self, true_or, or_true, false_or, or_false, and_false, false_and, not_true_eq_false, not_false_eq_true, if_true, if_false, e_R_isSmall_0, e_R_isSmall_16, e_R_isSmall_17]
  · simp (disch := first | assumption | omega) only [rn, wk, al, wr_e, td_e, tm_e, mset_eq, mset_ne, if_pos, if_neg, Int.reduceAdd, Int.reduceSub, Int.reduceMul, Int.reduceNeg, Int.reduceLT, Int.reduceLE, Int.reduceEq, Int.cast_ofNat_Int, eq_self, and_true, true_and, ite_self, true_or, or_true, false_or, or_false, and_false, false_and, not_true_eq_false, not_false_eq_true, if_true, if_false, e_R_isSmall_0, e_R_isSmall_16, e_R_isSmall_17]
theorem q_isDigit (d : Nat) (c : Int) (u : Mem) : sem (d + 1) 232 [c] u = some (if 48 ≤ c ∧ c ≤ 57 then 1 else 0, u) := by
  apply CV_eq; apply c_R_isDigit
  by_cases c1 : 48 ≤ c
  · by_cases c2 : c ≤ 57
    · simp (disch := first | assumption | omega) only [rn, wk, al, wr_e, td_e, tm_e, mset_eq, mset_ne, if_pos, if_neg, Int.reduceAdd, Int.reduceSub, Int.reduceMul, Int.reduceNeg, Int.reduceLT, Int.reduceLE, Int.reduceEq, Int.cast_ofNat_Int, eq_self, and_true, true_and, ite_self, true_or, or_true, false_or, or_false, and_false, false_and, not_true_eq_false, not_false_eq_true, if_true, if_false, e_R_isDigit_0, e_R_isDigit_16, e_R_isDigit_17]
    · simp (disch := first | assumption | omega) only [rn, wk, al, wr_e, td_e, tm_e, mset_eq, mset_ne, if_pos, if_neg, Int.reduceAdd, Int.reduceSub, Int.reduceMul, Int.reduceNeg, Int.reduceLT, Int.reduceLE, Int.reduceEq, Int.cast_ofNat_Int, eq_self, and_true, true_and, ite_self, true_or, or_true, false_or, or_false, and_false, false_and, not_true_eq_false, not_false_eq_true, if_true, if_false, e_R_isDigit_0, e_R_isDigit_16, e_R_isDigit_17]
  · simp (disch := first | assumption | omega) only [rn, wk, al, wr_e, td_e, tm_e, mset_eq, mset_ne, if_pos, if_neg, Int.reduceAdd, Int.reduceSub, Int.reduceMul, Int.reduceNeg, Int.reduceLT, Int.reduceLE, Int.reduceEq, Int.cast_ofNat_Int, eq_self, and_true, true_and, ite_self, true_or, or_true, false_or, or_false, and_false, false_and, not_true_eq_false, not_false_eq_true, if_true, if_false, e_R_isDigit_0, e_R_isDigit_16, e_R_isDigit_17]
theorem mset_upd {s t : Mem} {c i v : Int} (hf : ∀ c' j, ¬ (c' = c ∧ j = i) → t c' j = s c' j) (h : t c i = v) : t = mset s c i v := by
  funext c' j
  by_cases e : c' = c ∧ j = i
  · rw [mset_eq e.1 e.2, e.1, e.2, h]
  · rw [mset_ne e]; exact hf c' j e
theorem lp_ah0 (d : Nat) (u : Mem) (T : Int → Int) (n q : Int) (hT : TX T n) (h1 : ∀ i, 0 ≤ i ∧ i < n → u 144 i = T i) (h11 : u 137 11 = n) (Q : Int → Mem → Prop) (hQ : EV (d + 1) o_R_ahead 39 [] [137, 0] (mset u 137 14 q) Q) : ∀ (m : Nat) (k : Int) (w : Mem), 0 ≤ k → k + m = n → rux isB T n k = q → (∀ c i, ¬ (c = 137 ∧ i = 14) → w c i = u c i) → w 137 14 = k → EV (d + 1) o_R_ahead 0 [] [137, 0] w Q := by
  intro m
  induction m with
  | zero =>
    intro k w hk hkn he hf h14
    have ek : k = q := by rw [← he]; exact (rux_n (fun h => by omega)).symm
    have qb := q_byteAt d w T n k hT (fun i hi => by rw [hf _ _ (by omega)]; exact h1 i hi) (by rw [hf _ _ (by omega)]; exact h11) hk
    have eb : bta T n k = -1 := by unfold bta; rw [if_neg (by omega)]
    rw [eb] at qb
    have et := mset_upd (v := q) hf (by rw [h14, ek])
    rw [← et] at hQ
    rw [e_R_ahead_0]
    simp (disch := first | assumption | omega) only [rn, wk, al, wr_e, td_e, tm_e, mset_eq, mset_ne, if_pos, if_neg, Int.reduceAdd, Int.reduceSub, Int.reduceMul, Int.reduceNeg, Int.reduceLT, Int.reduceLE, Int.reduceEq, Int.cast_ofNat_Int, eq_self, and_true, true_and, ite_self, true_or, or_true, false_or, or_false, and_false, false_and, not_true_eq_false, not_false_eq_true, if_true, if_false, h14, qb]
    exact hQ
  | succ m ih =>
    intro k w hk hkn he hf h14
    have hb := hT.2 k (by omega)
    have hn := hT.1
    have qb := q_byteAt d w T n k hT (fun i hi => by rw [hf _ _ (by omega)]; exact h1 i hi) (by rw [hf _ _ (by omega)]; exact h11) hk
    have eb : bta T n k = T k % 256 := by unfold bta; rw [if_pos (by omega)]
    by_cases c : isB (T k) = true
    · have c' := isB_i.1 c
      have eb2 : bta T n k = T k := by rw [eb]; omega
      rw [eb2] at qb
      have hx := ih (k + 1) (mset w 137 14 (k + 1)) (by omega) (by omega) (by rw [← he]; exact (rux_y (by omega) c).symm) (fun c i hc => by rw [mset_ne (by omega)]; exact hf c i hc) (mset_eq rfl rfl)
      rw [e_R_ahead_0]
      rcases c' with c' | c'
      · rw [c'] at qb
        simp (disch := first | assumption | omega) only [rn, wk, al, wr_e, td_e, tm_e, mset_eq, mset_ne, if_pos, if_neg, Int.reduceAdd, Int.reduceSub, Int.reduceMul, Int.reduceNeg, Int.reduceLT, Int.reduceLE, Int.reduceEq, Int.cast_ofNat_Int, eq_self, and_true, true_and, ite_self, true_or, or_true, false_or, or_false, and_false, false_and, not_true_eq_false, not_false_eq_true, if_true, if_false, e_R_ahead_26, e_R_ahead_74, e_R_ahead_108, e_R_ahead_116, e_R_ahead_183, e_R_ahead_201, e_R_ahead_202, e_R_ahead_208, e_R_ahead_243, e_R_ahead_247, e_R_ahead_248, e_R_ahead_251, h14, qb]
        exact hx
      · rw [c'] at qb
        simp (disch := first | assumption | omega) only [rn, wk, al, wr_e, td_e, tm_e, mset_eq, mset_ne, if_pos, if_neg, Int.reduceAdd, Int.reduceSub, Int.reduceMul, Int.reduceNeg, Int.reduceLT, Int.reduceLE, Int.reduceEq, Int.cast_ofNat_Int, eq_self, and_true, true_and, ite_self, true_or, or_true, false_or, or_false, and_false, false_and, not_true_eq_false, not_false_eq_true, if_true, if_false, e_R_ahead_26, e_R_ahead_74, e_R_ahead_108, e_R_ahead_116, e_R_ahead_183, e_R_ahead_201, e_R_ahead_202, e_R_ahead_208, e_R_ahead_243, e_R_ahead_247, e_R_ahead_248, e_R_ahead_251, h14, qb]
        exact hx
    · have c' : ¬ (T k = 10 ∨ T k = 32) := fun h => c (isB_i.2 h)
      have ek : k = q := by rw [← he]; exact (rux_n (fun h => c h.2)).symm
      have et := mset_upd (v := q) hf (by rw [h14, ek])
      rw [← et] at hQ
      have nb : bta T n k ≠ 32 ∧ bta T n k ≠ 10 := by rw [eb]; omega
      rw [e_R_ahead_0]
      simp (disch := first | assumption | omega) only [rn, wk, al, wr_e, td_e, tm_e, mset_eq, mset_ne, if_pos, if_neg, Int.reduceAdd, Int.reduceSub, Int.reduceMul, Int.reduceNeg, Int.reduceLT, Int.reduceLE, Int.reduceEq, Int.cast_ofNat_Int, eq_self, and_true, true_and, ite_self, true_or, or_true, false_or, or_false, and_false, false_and, not_true_eq_false, not_false_eq_true, if_true, if_false, h14, qb]
      exact hQ
theorem lp_ah81 (d : Nat) (u : Mem) (T : Int → Int) (n e z : Int) (hT : TX T n) (h1 : ∀ i, 0 ≤ i ∧ i < n → u 144 i = T i) (h11 : u 137 11 = n) (Q : Int → Mem → Prop) (hQ : EV (d + 1) o_R_ahead 108 [] [137, z] (mset u 137 14 e) Q) : ∀ (m : Nat) (k : Int) (w : Mem), 0 ≤ k → k + m = n → rux isL T n k = e → (∀ c i, ¬ (c = 137 ∧ i = 14) → w c i = u c i) → w 137 14 = k → EV (d + 1) o_R_ahead 81 [] [137, z] w Q := by
  intro m
  induction m with
  | zero =>
    intro k w hk hkn he hf h14
    have ek : k = e := by rw [← he]; exact (rux_n (fun h => by omega)).symm
    have qb := q_byteAt d w T n k hT (fun i hi => by rw [hf _ _ (by omega)]; exact h1 i hi) (by rw [hf _ _ (by omega)]; exact h11) hk
    have eb : bta T n k = -1 := by unfold bta; rw [if_neg (by omega)]
    rw [eb] at qb
    have et := mset_upd (v := e) hf (by rw [h14, ek])
    rw [← et] at hQ
    rw [e_R_ahead_81]
    simp (disch := first | assumption | omega) only [rn, wk, al, wr_e, td_e, tm_e, mset_eq, mset_ne, if_pos, if_neg, Int.reduceAdd, Int.reduceSub, Int.reduceMul, Int.reduceNeg, Int.reduceLT, Int.reduceLE, Int.reduceEq, Int.cast_ofNat_Int, eq_self, and_true, true_and, ite_self, true_or, or_true, false_or, or_false, and_false, false_and, not_true_eq_false, not_false_eq_true, if_true, if_false, h14, qb, q_isSmall]
    exact hQ
  | succ m ih =>
    intro k w hk hkn he hf h14
    have hb := hT.2 k (by omega)
    have hn := hT.1
    have qb := q_byteAt d w T n k hT (fun i hi => by rw [hf _ _ (by omega)]; exact h1 i hi) (by rw [hf _ _ (by omega)]; exact h11) hk
    have eb : bta T n k = T k % 256 := by unfold bta; rw [if_pos (by omega)]
    by_cases c : isL (T k) = true
    · have c' := isL_i.1 c
      have hbb : 97 ≤ bta T n k ∧ bta T n k ≤ 122 := by rw [eb]; omega
      have qs := q_isSmall d (bta T n k) w
      rw [if_pos hbb] at qs
      have hx := ih (k + 1) (mset w 137 14 (k + 1)) (by omega) (by omega) (by rw [← he]; exact (rux_y (by omega) c).symm) (fun c i hc => by rw [mset_ne (by omega)]; exact hf c i hc) (mset_eq rfl rfl)
      rw [e_R_ahead_81]
      simp (disch := first | assumption | omega) only [rn, wk, al, wr_e, td_e, tm_e, mset_eq, mset_ne, if_pos, if_neg, Int.reduceAdd, Int.reduceSub, Int.reduceMul, Int.reduceNeg, Int.reduceLT, Int.reduceLE, Int.reduceEq, Int.cast_ofNat_Int, eq_self, and_true, true_and, ite_self, true_or, or_true, false_or, or_false, and_false, false_and, not_true_eq_false, not_false_eq_true, if_true, if_false, h14, qb, qs]
      exact hx
    · have c' : ¬ (97 ≤ T k ∧ T k ≤ 122) := fun h => c (isL_i.2 h)
      have ek : k = e := by rw [← he]; exact (rux_n (fun h => c h.2)).symm
      have et := mset_upd (v := e) hf (by rw [h14, ek])
      rw [← et] at hQ
      have nb : ¬ (97 ≤ bta T n k ∧ bta T n k ≤ 122) := by rw [eb]; omega
      have qs := q_isSmall d (bta T n k) w
      rw [if_neg nb] at qs
      rw [e_R_ahead_81]
      simp (disch := first | assumption | omega) only [rn, wk, al, wr_e, td_e, tm_e, mset_eq, mset_ne, if_pos, if_neg, Int.reduceAdd, Int.reduceSub, Int.reduceMul, Int.reduceNeg, Int.reduceLT, Int.reduceLE, Int.reduceEq, Int.cast_ofNat_Int, eq_self, and_true, true_and, ite_self, true_or, or_true, false_or, or_false, and_false, false_and, not_true_eq_false, not_false_eq_true, if_true, if_false, h14, qb, qs]
      exact hQ
theorem lp_ah128 (d : Nat) (u : Mem) (T : Int → Int) (n q e z : Int) (hT : TX T n) (h1 : ∀ i, 0 ≤ i ∧ i < n → u 144 i = T i) (h11 : u 137 11 = n) (hq : 0 ≤ q) (Q : Int → Mem → Prop) (hQ : ∀ w, (∀ c i, ¬ (c = 137 ∧ (i = 14 ∨ i = 15)) → w c i = u c i) → w 137 14 = e → (e - q ≤ 4 → w 137 15 = dv T q (e - q).toNat) → EV (d + 1) o_R_ahead 183 [] [137, z] w Q) : ∀ (m : Nat) (k : Int) (w : Mem), q ≤ k → k + m = n → rux isD T n k = e → (∀ c i, ¬ (c = 137 ∧ (i = 14 ∨ i = 15)) → w c i = u c i) → w 137 14 = k → (k - q ≤ 4 → w 137 15 = dv T q (k - q).toNat) → (0 ≤ w 137 15 ∧ w 137 15 ≤ 100000) → (∀ i, q ≤ i → i < k → 48 ≤ T i ∧ T i ≤ 57) → EV (d + 1) o_R_ahead 128 [] [137, z] w Q := by
  intro m
  induction m with
  | zero =>
    intro k w hk hkn he hf h14 h15 hb15 hd
    have ek : k = e := by rw [← he]; exact (rux_n (fun h => by omega)).symm
    have qb := q_byteAt d w T n k hT (fun i hi => by rw [hf _ _ (by omega)]; exact h1 i hi) (by rw [hf _ _ (by omega)]; exact h11) (by omega)
    have eb : bta T n k = -1 := by unfold bta; rw [if_neg (by omega)]
    rw [eb] at qb
    have hx := hQ w hf (by omega) (by rw [← ek]; exact h15)
    rw [e_R_ahead_128]
    simp (disch := first | assumption | omega) only [rn, wk, al, wr_e, td_e, tm_e, mset_eq, mset_ne, if_pos, if_neg, Int.reduceAdd, Int.reduceSub, Int.reduceMul, Int.reduceNeg, Int.reduceLT, Int.reduceLE, Int.reduceEq, Int.cast_ofNat_Int, eq_self, and_true, true_and, ite_self, true_or, or_true, false_or, or_false, and_false, false_and, not_true_eq_false, not_false_eq_true, if_true, if_false, h14, qb, q_isDigit]
    exact hx
  | succ m ih =>
    intro k w hk hkn he hf h14 h15 hb15 hd
    have hb := hT.2 k (by omega)
    have hn := hT.1
    have qb := q_byteAt d w T n k hT (fun i hi => by rw [hf _ _ (by omega)]; exact h1 i hi) (by rw [hf _ _ (by omega)]; exact h11) (by omega)
    have eb : bta T n k = T k % 256 := by unfold bta; rw [if_pos (by omega)]
    by_cases c : isD (T k) = true
    · have c' := isD_i.1 c
      have ebt : bta T n k = T k := by rw [eb]; omega
      rw [ebt] at qb
      have qs := q_isDigit d (T k) w
      rw [if_pos c'] at qs
      obtain ⟨x, hx_, hx1, hx2⟩ : ∃ x, min 100000 (10 * w 137 15 + T k - 48) = x ∧ (0 ≤ x ∧ x ≤ 100000) ∧ (10 * w 137 15 + T k - 48 ≤ 100000 → x = 10 * w 137 15 + T k - 48) := ⟨_, rfl, by omega, fun h => by omega⟩
      have e1 : (k + 1 - q).toNat = (k - q).toNat + 1 := by omega
      have e2 : q + ((k - q).toNat : Int) = k := by omega
      have hx := ih (k + 1) (mset (mset w 137 15 x) 137 14 (k + 1)) (by omega) (by omega) (by rw [← he]; exact (rux_y (by omega) c).symm) (fun c i hc => by rw [mset_ne (by omega), mset_ne (by omega)]; exact hf c i hc) (mset_eq rfl rfl) (fun h4 => by
        have v15 := h15 (by omega)
        have bd := dgv_b (T := T) (q := q) (k - q).toNat (fun i a b => hd (q + i) (by omega) (by omega))
        have bp := p10_le (k - q).toNat (by omega)
        rw [mset_ne (by omega), mset_eq rfl rfl, e1]
        show x = 10 * dv T q (k - q).toNat + (T (q + ((k - q).toNat : Int)) - 48)
        rw [e2, ← v15, hx2 (by omega)]; omega) (by rw [mset_ne (by omega), mset_eq rfl rfl]; exact hx1) (fun i a b => by
        by_cases ei : i = k
        · rw [ei]; exact c'
        · exact hd i a (by omega))
      rw [e_R_ahead_128]
      simp (disch := first | assumption | omega) only [rn, wk, al, wr_e, td_e, tm_e, mset_eq, mset_ne, if_pos, if_neg, Int.reduceAdd, Int.reduceSub, Int.reduceMul, Int.reduceNeg, Int.reduceLT, Int.reduceLE, Int.reduceEq, Int.cast_ofNat_Int, eq_self, and_true, true_and, ite_self, true_or, or_true, false_or, or_false, and_false, false_and, not_true_eq_false, not_false_eq_true, if_true, if_false, h14, qb, qs, hx_]
      exact hx
    · have c' : ¬ (48 ≤ T k ∧ T k ≤ 57) := fun h => c (isD_i.2 h)
      have ek : k = e := by rw [← he]; exact (rux_n (fun h => c h.2)).symm
      have nb : ¬ (48 ≤ bta T n k ∧ bta T n k ≤ 57) := by rw [eb]; omega
      have qs := q_isDigit d (bta T n k) w
      rw [if_neg nb] at qs
      have hx := hQ w hf (by omega) (by rw [← ek]; exact h15)
      rw [e_R_ahead_128]
      simp (disch := first | assumption | omega) only [rn, wk, al, wr_e, td_e, tm_e, mset_eq, mset_ne, if_pos, if_neg, Int.reduceAdd, Int.reduceSub, Int.reduceMul, Int.reduceNeg, Int.reduceLT, Int.reduceLE, Int.reduceEq, Int.cast_ofNat_Int, eq_self, and_true, true_and, ite_self, true_or, or_true, false_or, or_false, and_false, false_and, not_true_eq_false, not_false_eq_true, if_true, if_false, h14, qb, qs]
      exact hx
theorem q_ahead (d : Nat) (u : Mem) (T : Int → Int) (n p : Int) (hT : TX T n) (h1 : ∀ i, 0 ≤ i ∧ i < n → u 144 i = T i) (h11 : u 137 11 = n) (h14 : u 137 14 = p) (hp : 0 ≤ p ∧ p ≤ n) : CV (d + 2) 229 [137] u fun _ w => Fra u w ∧ TkR T n p w := by
  obtain ⟨b1, b2, b3⟩ := tke_b (T := T) hp
  have hn := hT.1
  obtain ⟨q, hq⟩ : ∃ q, q = tkq T n p := ⟨_, rfl⟩
  obtain ⟨e, he⟩ : ∃ e, e = tke T n p := ⟨_, rfl⟩
  rw [← hq, ← he] at b2
  rw [← hq] at b1 b3
  rw [← he] at b3
  apply c_R_ahead
  refine lp_ah0 d u T n q hT h1 h11 _ ?_ (n - p).toNat p u hp.1 (by omega) hq.symm (fun _ _ _ => rfl) h14
  obtain ⟨w0, hw0⟩ : ∃ w0, w0 = mset (mset u 137 14 q) 137 13 q := ⟨_, rfl⟩
  have f0 : ∀ c i, ¬ (c = 137 ∧ (i = 14 ∨ i = 13)) → w0 c i = u c i := fun c i hc => by rw [hw0, mset_ne (by omega), mset_ne (by omega)]
  have g14 : w0 137 14 = q := by rw [hw0, mset_ne (by omega), mset_eq rfl rfl]
  have g13 : w0 137 13 = q := by rw [hw0, mset_eq rfl rfl]
  have g11 : w0 137 11 = n := by rw [f0 _ _ (by omega)]; exact h11
  have qb := q_byteAt d w0 T n q hT (fun i hi => by rw [f0 _ _ (by omega)]; exact h1 i hi) g11 (by omega)
  rw [e_R_ahead_39]
  by_cases c0 : n ≤ q
  · have hk : tkk T n p = 0 := by unfold tkk; rw [if_pos (by omega)]
    have eb : bta T n q = -1 := by unfold bta; rw [if_neg (by omega)]
    rw [eb] at qb
    have hpost : Fra u (mset (mset w0 137 15 (-1)) 137 12 0) ∧ TkR T n p (mset (mset w0 137 15 (-1)) 137 12 0) := by
      refine ⟨fun c i hc => by rw [mset_ne (by omega), mset_ne (by omega)]; exact f0 c i (by omega), ?_, ?_, ?_, ?_, fun h => by omega, fun h => by omega⟩
      · rw [mset_ne (by omega), mset_ne (by omega)]; exact g11
      · rw [mset_ne (by omega), mset_ne (by omega), g13, hq]
      · rw [mset_ne (by omega), mset_ne (by omega), g14, ← he]; omega
      · rw [mset_eq rfl rfl, hk]; rfl
    simp (disch := first | assumption | omega) only [rn, wk, al, wr_e, td_e, tm_e, mset_eq, mset_ne, if_pos, if_neg, Int.reduceAdd, Int.reduceSub, Int.reduceMul, Int.reduceNeg, Int.reduceLT, Int.reduceLE, Int.reduceEq, Int.cast_ofNat_Int, eq_self, and_true, true_and, ite_self, true_or, or_true, false_or, or_false, and_false, false_and, not_true_eq_false, not_false_eq_true, if_true, if_false, e_R_ahead_26, e_R_ahead_39, e_R_ahead_74, e_R_ahead_108, e_R_ahead_116, e_R_ahead_183, e_R_ahead_201, e_R_ahead_202, e_R_ahead_208, e_R_ahead_243, e_R_ahead_247, e_R_ahead_248, e_R_ahead_251, ← hw0, g14, qb]
    exact hpost
  · have hb := hT.2 q (by omega)
    have eb : bta T n q = T q % 256 := by unfold bta; rw [if_pos (by omega)]
    obtain ⟨x, hx⟩ : ∃ x, x = bta T n q := ⟨_, rfl⟩
    rw [← hx] at qb eb
    obtain ⟨w1, hw1⟩ : ∃ w1, w1 = mset w0 137 15 x := ⟨_, rfl⟩
    have f1 : ∀ c i, ¬ (c = 137 ∧ (i = 14 ∨ i = 13 ∨ i = 15)) → w1 c i = u c i := fun c i hc => by rw [hw1, mset_ne (by omega)]; exact f0 c i (by omega)
    have k14 : w1 137 14 = q := by rw [hw1, mset_ne (by omega)]; exact g14
    have k13 : w1 137 13 = q := by rw [hw1, mset_ne (by omega)]; exact g13
    have k15 : w1 137 15 = x := by rw [hw1, mset_eq rfl rfl]
    have k11 : w1 137 11 = n := by rw [f1 _ _ (by omega)]; exact h11
    have k144 : ∀ i, 0 ≤ i ∧ i < n → w1 144 i = T i := fun i hi => by rw [f1 _ _ (by omega)]; exact h1 i hi
    by_cases cL : isL (T q) = true
    · have cL' := isL_i.1 cL
      have hk : tkk T n p = 1 := by unfold tkk; rw [if_neg (by omega), ← hq, if_pos cL]
      have hee : e = rux isL T n q := by rw [he]; unfold tke; rw [if_neg (by omega), ← hq, if_pos cL]
      have qs := q_isSmall d x w1
      rw [if_pos (by omega)] at qs
      have hpost : Fra u (mset (mset w1 137 14 e) 137 12 2) ∧ TkR T n p (mset (mset w1 137 14 e) 137 12 2) := by
        refine ⟨fun c i hc => by rw [mset_ne (by omega), mset_ne (by omega)]; exact f1 c i (by omega), ?_, ?_, ?_, ?_, fun h => by omega, fun h => by omega⟩
        · rw [mset_ne (by omega), mset_ne (by omega)]; exact k11
        · rw [mset_ne (by omega), mset_ne (by omega), k13, hq]
        · rw [mset_ne (by omega), mset_eq rfl rfl, he]
        · rw [mset_eq rfl rfl, hk]; rfl
      have hl := lp_ah81 d w1 T n e x hT k144 k11 (fun _ w => Fra u w ∧ TkR T n p w) (by
        rw [e_R_ahead_108]
        simp (disch := first | assumption | omega) only [rn, wk, al, wr_e, td_e, tm_e, mset_eq, mset_ne, if_pos, if_neg, Int.reduceAdd, Int.reduceSub, Int.reduceMul, Int.reduceNeg, Int.reduceLT, Int.reduceLE, Int.reduceEq, Int.cast_ofNat_Int, eq_self, and_true, true_and, ite_self, true_or, or_true, false_or, or_false, and_false, false_and, not_true_eq_false, not_false_eq_true, if_true, if_false, e_R_ahead_26, e_R_ahead_39, e_R_ahead_74, e_R_ahead_108, e_R_ahead_116, e_R_ahead_183, e_R_ahead_201, e_R_ahead_202, e_R_ahead_208, e_R_ahead_243, e_R_ahead_247, e_R_ahead_248, e_R_ahead_251]
        exact hpost) (n - q).toNat q w1 (by omega) (by omega) hee.symm (fun _ _ _ => rfl) k14
      simp (disch := first | assumption | omega) only [rn, wk, al, wr_e, td_e, tm_e, mset_eq, mset_ne, if_pos, if_neg, Int.reduceAdd, Int.reduceSub, Int.reduceMul, Int.reduceNeg, Int.reduceLT, Int.reduceLE, Int.reduceEq, Int.cast_ofNat_Int, eq_self, and_true, true_and, ite_self, true_or, or_true, false_or, or_false, and_false, false_and, not_true_eq_false, not_false_eq_true, if_true, if_false, e_R_ahead_26, e_R_ahead_39, e_R_ahead_74, e_R_ahead_108, e_R_ahead_116, e_R_ahead_183, e_R_ahead_201, e_R_ahead_202, e_R_ahead_208, e_R_ahead_243, e_R_ahead_247, e_R_ahead_248, e_R_ahead_251, ← hw0, g14, qb, ← hw1, qs]
      exact hl
    · have cL' : ¬ (97 ≤ T q ∧ T q ≤ 122) := fun h => cL (isL_i.2 h)
      have qs := q_isSmall d x w1
      rw [if_neg (by omega)] at qs
      by_cases cD : isD (T q) = true
      · have cD' := isD_i.1 cD
        have hk : tkk T n p = if 4 < e - q then 4 else 2 := by unfold tkk; rw [if_neg (by omega), ← hq, if_neg cL, if_pos cD, ← he]
        have hee : e = rux isD T n q := by rw [he]; unfold tke; rw [if_neg (by omega), ← hq, if_neg cL, if_pos cD]
        have qd := q_isDigit d x w1
        rw [if_pos (by omega)] at qd
        have hl := lp_ah128 d w1 T n q e x hT k144 k11 (by omega) (fun _ w => Fra u w ∧ TkR T n p w) (fun w a b c => by
          have m13 : w 137 13 = q := by rw [a _ _ (by omega)]; exact k13
          have m11 : w 137 11 = n := by rw [a _ _ (by omega)]; exact k11
          rw [e_R_ahead_183]
          by_cases c4 : 4 < e - q
          · rw [if_pos c4] at hk
            have hpost : Fra u (mset w 137 12 1) ∧ TkR T n p (mset w 137 12 1) := by
              refine ⟨fun c i hc => by rw [mset_ne (by omega), a c i (by omega)]; exact f1 c i (by omega), by rw [mset_ne (by omega)]; exact m11, by rw [mset_ne (by omega), m13, hq], by rw [mset_ne (by omega), b, he], by rw [mset_eq rfl rfl, hk]; rfl, fun h => by omega, fun h => by omega⟩
            simp (disch := first | assumption | omega) only [rn, wk, al, wr_e, td_e, tm_e, mset_eq, mset_ne, if_pos, if_neg, Int.reduceAdd, Int.reduceSub, Int.reduceMul, Int.reduceNeg, Int.reduceLT, Int.reduceLE, Int.reduceEq, Int.cast_ofNat_Int, eq_self, and_true, true_and, ite_self, true_or, or_true, false_or, or_false, and_false, false_and, not_true_eq_false, not_false_eq_true, if_true, if_false, e_R_ahead_26, e_R_ahead_39, e_R_ahead_74, e_R_ahead_108, e_R_ahead_116, e_R_ahead_183, e_R_ahead_201, e_R_ahead_202, e_R_ahead_208, e_R_ahead_243, e_R_ahead_247, e_R_ahead_248, e_R_ahead_251, b, m13]
            exact hpost
          · rw [if_neg c4] at hk
            have hpost : Fra u (mset w 137 12 3) ∧ TkR T n p (mset w 137 12 3) := by
              refine ⟨fun c i hc => by rw [mset_ne (by omega), a c i (by omega)]; exact f1 c i (by omega), by rw [mset_ne (by omega)]; exact m11, by rw [mset_ne (by omega), m13, hq], by rw [mset_ne (by omega), b, he], by rw [mset_eq rfl rfl, hk]; rfl, fun h => by rw [mset_ne (by omega), c (by omega)]; unfold dvT; rw [← hq, ← he], fun h => by omega⟩
            simp (disch := first | assumption | omega) only [rn, wk, al, wr_e, td_e, tm_e, mset_eq, mset_ne, if_pos, if_neg, Int.reduceAdd, Int.reduceSub, Int.reduceMul, Int.reduceNeg, Int.reduceLT, Int.reduceLE, Int.reduceEq, Int.cast_ofNat_Int, eq_self, and_true, true_and, ite_self, true_or, or_true, false_or, or_false, and_false, false_and, not_true_eq_false, not_false_eq_true, if_true, if_false, e_R_ahead_26, e_R_ahead_39, e_R_ahead_74, e_R_ahead_108, e_R_ahead_116, e_R_ahead_183, e_R_ahead_201, e_R_ahead_202, e_R_ahead_208, e_R_ahead_243, e_R_ahead_247, e_R_ahead_248, e_R_ahead_251, b, m13]
            exact hpost) (n - q).toNat q (mset w1 137 15 0) (by omega) (by omega) hee.symm (fun c i hc => by rw [mset_ne (by omega)]) (by rw [mset_ne (by omega)]; exact k14) (fun _ => by rw [mset_eq rfl rfl, Int.sub_self]; rfl) (by rw [mset_eq rfl rfl]; omega) (fun i a b => by omega)
        simp (disch := first | assumption | omega) only [rn, wk, al, wr_e, td_e, tm_e, mset_eq, mset_ne, if_pos, if_neg, Int.reduceAdd, Int.reduceSub, Int.reduceMul, Int.reduceNeg, Int.reduceLT, Int.reduceLE, Int.reduceEq, Int.cast_ofNat_Int, eq_self, and_true, true_and, ite_self, true_or, or_true, false_or, or_false, and_false, false_and, not_true_eq_false, not_false_eq_true, if_true, if_false, e_R_ahead_26, e_R_ahead_39, e_R_ahead_74, e_R_ahead_108, e_R_ahead_116, e_R_ahead_183, e_R_ahead_201, e_R_ahead_202, e_R_ahead_208, e_R_ahead_243, e_R_ahead_247, e_R_ahead_248, e_R_ahead_251, ← hw0, g14, qb, ← hw1, qs, qd]
        exact hl
      · have cD' : ¬ (48 ≤ T q ∧ T q ≤ 57) := fun h => cD (isD_i.2 h)
        have qd := q_isDigit d x w1
        rw [if_neg (by omega)] at qd
        have hee : e = q + 1 := by rw [he]; unfold tke; rw [if_neg (by omega), ← hq, if_neg cL, if_neg cD]
        by_cases c3 : 59 ≤ T q ∧ T q ≤ 62
        · have hk : tkk T n p = 3 := by unfold tkk; rw [if_neg (by omega), ← hq, if_neg cL, if_neg cD, if_pos c3]
          have exT : x = T q := by omega
          have hpost : Fra u (mset (mset w1 137 14 (q + 1)) 137 12 4) ∧ TkR T n p (mset (mset w1 137 14 (q + 1)) 137 12 4) := by
            refine ⟨fun c i hc => by rw [mset_ne (by omega), mset_ne (by omega)]; exact f1 c i (by omega), ?_, ?_, ?_, ?_, fun h => by omega, fun h => ?_⟩
            · rw [mset_ne (by omega), mset_ne (by omega)]; exact k11
            · rw [mset_ne (by omega), mset_ne (by omega), k13, hq]
            · rw [mset_ne (by omega), mset_eq rfl rfl, ← he, hee]
            · rw [mset_eq rfl rfl, hk]; rfl
            · rw [mset_ne (by omega), mset_ne (by omega), k15, exT, hq]
          obtain e9 | e9 | e9 | e9 : x = 59 ∨ x = 60 ∨ x = 61 ∨ x = 62 := by omega
          all_goals
            simp (disch := first | assumption | omega) only [rn, wk, al, wr_e, td_e, tm_e, mset_eq, mset_ne, if_pos, if_neg, Int.reduceAdd, Int.reduceSub, Int.reduceMul, Int.reduceNeg, Int.reduceLT, Int.reduceLE, Int.reduceEq, Int.cast_ofNat_Int, eq_self, and_true, true_and, ite_self, true_or, or_true, false_or, or_false, and_false, false_and, not_true_eq_false, not_false_eq_true, if_true, if_false, e_R_ahead_26, e_R_ahead_39, e_R_ahead_74, e_R_ahead_108, e_R_ahead_116, e_R_ahead_183, e_R_ahead_201, e_R_ahead_202, e_R_ahead_208, e_R_ahead_243, e_R_ahead_247, e_R_ahead_248, e_R_ahead_251, ← hw0, g14, qb, ← hw1, qs, qd, k14]
            exact hpost
        · have hk : tkk T n p = 4 := by unfold tkk; rw [if_neg (by omega), ← hq, if_neg cL, if_neg cD, if_neg c3]
          have hpost : Fra u (mset (mset w1 137 14 (q + 1)) 137 12 1) ∧ TkR T n p (mset (mset w1 137 14 (q + 1)) 137 12 1) := by
            refine ⟨fun c i hc => by rw [mset_ne (by omega), mset_ne (by omega)]; exact f1 c i (by omega), ?_, ?_, ?_, ?_, fun h => by omega, fun h => by omega⟩
            · rw [mset_ne (by omega), mset_ne (by omega)]; exact k11
            · rw [mset_ne (by omega), mset_ne (by omega), k13, hq]
            · rw [mset_ne (by omega), mset_eq rfl rfl, ← he, hee]
            · rw [mset_eq rfl rfl, hk]; rfl
          simp (disch := first | assumption | omega) only [rn, wk, al, wr_e, td_e, tm_e, mset_eq, mset_ne, if_pos, if_neg, Int.reduceAdd, Int.reduceSub, Int.reduceMul, Int.reduceNeg, Int.reduceLT, Int.reduceLE, Int.reduceEq, Int.cast_ofNat_Int, eq_self, and_true, true_and, ite_self, true_or, or_true, false_or, or_false, and_false, false_and, not_true_eq_false, not_false_eq_true, if_true, if_false, e_R_ahead_26, e_R_ahead_39, e_R_ahead_74, e_R_ahead_108, e_R_ahead_116, e_R_ahead_183, e_R_ahead_201, e_R_ahead_202, e_R_ahead_208, e_R_ahead_243, e_R_ahead_247, e_R_ahead_248, e_R_ahead_251, ← hw0, g14, qb, ← hw1, qs, qd, k14]
          exact hpost
