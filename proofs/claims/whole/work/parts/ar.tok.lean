/-! ===== H2: the class's tokens ===== -/
def tkq (T : Int → Int) (n p : Int) : Int := rux isB T n p
def tke (T : Int → Int) (n p : Int) : Int := if n ≤ tkq T n p then tkq T n p else if isL (T (tkq T n p)) = true then rux isL T n (tkq T n p) else if isD (T (tkq T n p)) = true then rux isD T n (tkq T n p) else tkq T n p + 1
def tkk (T : Int → Int) (n p : Int) : Int := if n ≤ tkq T n p then 0 else if isL (T (tkq T n p)) = true then 1 else if isD (T (tkq T n p)) = true then (if 4 < tke T n p - tkq T n p then 4 else 2) else if 59 ≤ T (tkq T n p) ∧ T (tkq T n p) ≤ 62 then 3 else 4
def dv (T : Int → Int) (q : Int) : Nat → Int
  | 0 => 0
  | k + 1 => 10 * dv T q k + (T (q + k) - 48)
def dvT (T : Int → Int) (n p : Int) : Int := dv T (tkq T n p) (tke T n p - tkq T n p).toNat
def nmT (T : Int → Int) (n p : Int) : Int := nmf T (tkq T n p) (tke T n p - tkq T n p).toNat
def wnT (T : Int → Int) (n p : Int) : Int := if tke T n p - tkq T n p ≤ 8 then wn_ (nmT T n p) 21 0 else -1
def TX (T : Int → Int) (n : Int) : Prop := (0 ≤ n ∧ n ≤ 900) ∧ ∀ i, 0 ≤ i ∧ i < n → -128 ≤ T i ∧ T i < 128
def TkC (T : Int → Int) (n p : Int) (t : Mem) : Prop := t 7 2 = n ∧ t 7 5 = tkq T n p ∧ t 7 3 = tke T n p ∧ t 7 4 = tkk T n p ∧ (tkk T n p = 1 → t 7 6 = wnT T n p ∧ t 7 7 = nmT T n p) ∧ (tkk T n p = 2 → t 7 6 = dvT T n p) ∧ (tkk T n p = 3 → t 7 6 = T (tkq T n p))
def Fta (s t : Mem) : Prop := ∀ c i, ¬ (c = 7 ∧ 3 ≤ i ∧ i ≤ 7) → t c i = s c i
theorem tke_b {T : Int → Int} {n p : Int} (hp : 0 ≤ p ∧ p ≤ n) : (p ≤ tkq T n p ∧ tkq T n p ≤ n) ∧ (tkq T n p ≤ tke T n p ∧ tke T n p ≤ n) ∧ (tkq T n p < n → tkq T n p < tke T n p) := by
  have h1 := (rux_ok (P := isB) (T := T) (n := n) p).1
  have h1' : p ≤ tkq T n p ∧ tkq T n p ≤ n := ⟨h1.1, h1.2 hp.2⟩
  unfold tke
  by_cases c : n ≤ tkq T n p
  · rw [if_pos c]; omega
  · rw [if_neg c]
    by_cases c2 : isL (T (tkq T n p)) = true
    · rw [if_pos c2]
      have h2 := (rux_ok (P := isL) (T := T) (n := n) (tkq T n p + 1)).1
      rw [← rux_y (by omega) c2] at h2
      have := h2.2 (by omega)
      omega
    · rw [if_neg c2]
      by_cases c3 : isD (T (tkq T n p)) = true
      · rw [if_pos c3]
        have h2 := (rux_ok (P := isD) (T := T) (n := n) (tkq T n p + 1)).1
        rw [← rux_y (by omega) c3] at h2
        have := h2.2 (by omega)
        omega
      · rw [if_neg c3]; omega
theorem q_kindOfT (d : Nat) (c : Int) (s : Mem) : sem (d + 1) 26 [c] s = some (if 97 ≤ c ∧ c ≤ 122 then 1 else if 48 ≤ c ∧ c ≤ 57 then 2 else if 59 ≤ c ∧ c ≤ 62 then 3 else 4, s) := by
  apply CV_eq; apply c_Tokens_kindOf
  by_cases c1 : 97 ≤ c ∧ c ≤ 122
  · simp (disch := first | assumption | omega) only [rn, wk, al, wr_e, td_e, tm_e, mset_eq, mset_ne, if_pos, if_neg, Int.reduceAdd, Int.reduceSub, Int.reduceMul, Int.reduceNeg, Int.reduceLT, Int.reduceLE, Int.reduceEq, Int.cast_ofNat_Int, eq_self, and_true, true_and, ite_self, true_or, or_true, false_or, or_false, and_false, false_and, not_true_eq_false, not_false_eq_true, if_true, if_false, e_Tokens_kindOf_0, e_Tokens_kindOf_14, e_Tokens_kindOf_28, e_Tokens_kindOf_52, e_Tokens_kindOf_56, e_Tokens_kindOf_57]
  · by_cases c2 : 48 ≤ c ∧ c ≤ 57
    · simp (disch := first | assumption | omega) only [rn, wk, al, wr_e, td_e, tm_e, mset_eq, mset_ne, if_pos, if_neg, Int.reduceAdd, Int.reduceSub, Int.reduceMul, Int.reduceNeg, Int.reduceLT, Int.reduceLE, Int.reduceEq, Int.cast_ofNat_Int, eq_self, and_true, true_and, ite_self, true_or, or_true, false_or, or_false, and_false, false_and, not_true_eq_false, not_false_eq_true, if_true, if_false, e_Tokens_kindOf_0, e_Tokens_kindOf_14, e_Tokens_kindOf_28, e_Tokens_kindOf_52, e_Tokens_kindOf_56, e_Tokens_kindOf_57]
    · by_cases c3 : 59 ≤ c ∧ c ≤ 62
      · rw [if_neg c1, if_neg c2, if_pos c3]
        obtain rfl | rfl | rfl | rfl : c = 59 ∨ c = 60 ∨ c = 61 ∨ c = 62 := by omega
        all_goals simp (disch := first | assumption | omega) only [rn, wk, al, wr_e, td_e, tm_e, mset_eq, mset_ne, if_pos, if_neg, Int.reduceAdd, Int.reduceSub, Int.reduceMul, Int.reduceNeg, Int.reduceLT, Int.reduceLE, Int.reduceEq, Int.cast_ofNat_Int, eq_self, and_true, true_and, ite_self, true_or, or_true, false_or, or_false, and_false, false_and, not_true_eq_false, not_false_eq_true, if_true, if_false, e_Tokens_kindOf_0, e_Tokens_kindOf_14, e_Tokens_kindOf_28, e_Tokens_kindOf_52, e_Tokens_kindOf_56, e_Tokens_kindOf_57]
      · rw [if_neg c1, if_neg c2, if_neg c3]
        by_cases c4 : 97 ≤ c
        · simp (disch := first | assumption | omega) only [rn, wk, al, wr_e, td_e, tm_e, mset_eq, mset_ne, if_pos, if_neg, Int.reduceAdd, Int.reduceSub, Int.reduceMul, Int.reduceNeg, Int.reduceLT, Int.reduceLE, Int.reduceEq, Int.cast_ofNat_Int, eq_self, and_true, true_and, ite_self, true_or, or_true, false_or, or_false, and_false, false_and, not_true_eq_false, not_false_eq_true, if_true, if_false, e_Tokens_kindOf_0, e_Tokens_kindOf_14, e_Tokens_kindOf_28, e_Tokens_kindOf_52, e_Tokens_kindOf_56, e_Tokens_kindOf_57]
        · by_cases c5 : 48 ≤ c
          · simp (disch := first | assumption | omega) only [rn, wk, al, wr_e, td_e, tm_e, mset_eq, mset_ne, if_pos, if_neg, Int.reduceAdd, Int.reduceSub, Int.reduceMul, Int.reduceNeg, Int.reduceLT, Int.reduceLE, Int.reduceEq, Int.cast_ofNat_Int, eq_self, and_true, true_and, ite_self, true_or, or_true, false_or, or_false, and_false, false_and, not_true_eq_false, not_false_eq_true, if_true, if_false, e_Tokens_kindOf_0, e_Tokens_kindOf_14, e_Tokens_kindOf_28, e_Tokens_kindOf_52, e_Tokens_kindOf_56, e_Tokens_kindOf_57]
          · simp (disch := first | assumption | omega) only [rn, wk, al, wr_e, td_e, tm_e, mset_eq, mset_ne, if_pos, if_neg, Int.reduceAdd, Int.reduceSub, Int.reduceMul, Int.reduceNeg, Int.reduceLT, Int.reduceLE, Int.reduceEq, Int.cast_ofNat_Int, eq_self, and_true, true_and, ite_self, true_or, or_true, false_or, or_false, and_false, false_and, not_true_eq_false, not_false_eq_true, if_true, if_false, e_Tokens_kindOf_0, e_Tokens_kindOf_14, e_Tokens_kindOf_28, e_Tokens_kindOf_52, e_Tokens_kindOf_56, e_Tokens_kindOf_57]
theorem lp_rl (d : Nat) (s : Mem) (T : Int → Int) (n q e : Int) (hT : TX T n) (h8 : ∀ i, 0 ≤ i ∧ i < n → s 8 i = T i) (h2 : s 7 2 = n) (hq : 0 ≤ q) (Q : Int → Mem → Prop) (hQ : ∀ t, (∀ c i, ¬ (c = 7 ∧ (i = 3 ∨ i = 7)) → t c i = s c i) → t 7 3 = e → t 7 7 = nmf T q (e - q).toNat → Q 0 t) : ∀ (m : Nat) (k : Int) (t : Mem), q < k → k + m = n → rux isL T n k = e → (∀ c i, ¬ (c = 7 ∧ (i = 3 ∨ i = 7)) → t c i = s c i) → t 7 3 = k → t 7 7 = nmf T q (k - q).toNat → EV d o_Tokens_readLetters 14 [] [7] t Q := by
  intro m
  induction m with
  | zero =>
    intro k t hk hkn he hf h3 h7
    have ek : e = k := by rw [← he]; exact rux_n (fun h => by omega)
    have hq := hQ t hf (by omega) (by rw [ek]; exact h7)
    have g2 : t 7 2 = n := by rw [hf _ _ (by omega)]; exact h2
    rw [e_Tokens_readLetters_14]
    simp (disch := first | assumption | omega) only [rn, wk, al, wr_e, td_e, tm_e, mset_eq, mset_ne, if_pos, if_neg, Int.reduceAdd, Int.reduceSub, Int.reduceMul, Int.reduceNeg, Int.reduceLT, Int.reduceLE, Int.reduceEq, Int.cast_ofNat_Int, eq_self, and_true, true_and, ite_self, true_or, or_true, false_or, or_false, and_false, false_and, not_true_eq_false, not_false_eq_true, if_true, if_false, e_Tokens_readLetters_0, e_Tokens_readLetters_88, h3, g2]
    exact hq
  | succ m ih =>
    intro k t hk hkn he hf h3 h7
    have g2 : t 7 2 = n := by rw [hf _ _ (by omega)]; exact h2
    have g8 : t 8 k = T k := by rw [hf _ _ (by omega)]; exact h8 k (by omega)
    have hb := hT.2 k (by omega)
    have hn := hT.1
    by_cases c : isL (T k) = true
    · have c' := isL_i.1 c
      have e1 : (k + 1 - q).toNat = (k - q).toNat + 1 := by omega
      have e2 : q + ((k - q).toNat : Int) = k := by omega
      have hx := ih (k + 1) (mset (mset t 7 7 (lor_ (lshl_ (nmf T q (k - q).toNat) 8) (T k))) 7 3 (k + 1)) (by omega) (by omega) (by rw [← he]; exact (rux_y (by omega) c).symm) (fun c i hc => by rw [mset_ne (by omega), mset_ne (by omega)]; exact hf c i hc) (mset_eq rfl rfl) (by
        rw [mset_ne (by omega), mset_eq rfl rfl, e1]
        show _ = lor_ (lshl_ (nmf T q (k - q).toNat) 8) (T (q + ((k - q).toNat : Int)))
        rw [e2])
      rw [e_Tokens_readLetters_14]
      simp (disch := first | assumption | omega) only [rn, wk, al, wr_e, td_e, tm_e, mset_eq, mset_ne, if_pos, if_neg, Int.reduceAdd, Int.reduceSub, Int.reduceMul, Int.reduceNeg, Int.reduceLT, Int.reduceLE, Int.reduceEq, Int.cast_ofNat_Int, eq_self, and_true, true_and, ite_self, true_or, or_true, false_or, or_false, and_false, false_and, not_true_eq_false, not_false_eq_true, if_true, if_false, e_Tokens_readLetters_0, e_Tokens_readLetters_88, h3, g2, g8, h7]
      exact hx
    · have c' : ¬ (97 ≤ T k ∧ T k ≤ 122) := fun h => c (isL_i.2 h)
      have ek : e = k := by rw [← he]; exact rux_n (fun h => c h.2)
      have hq := hQ t hf (by omega) (by rw [ek]; exact h7)
      rw [e_Tokens_readLetters_14]
      by_cases c1 : 97 ≤ T k
      · simp (disch := first | assumption | omega) only [rn, wk, al, wr_e, td_e, tm_e, mset_eq, mset_ne, if_pos, if_neg, Int.reduceAdd, Int.reduceSub, Int.reduceMul, Int.reduceNeg, Int.reduceLT, Int.reduceLE, Int.reduceEq, Int.cast_ofNat_Int, eq_self, and_true, true_and, ite_self, true_or, or_true, false_or, or_false, and_false, false_and, not_true_eq_false, not_false_eq_true, if_true, if_false, e_Tokens_readLetters_0, e_Tokens_readLetters_88, h3, g2, g8]
        exact hq
      · simp (disch := first | assumption | omega) only [rn, wk, al, wr_e, td_e, tm_e, mset_eq, mset_ne, if_pos, if_neg, Int.reduceAdd, Int.reduceSub, Int.reduceMul, Int.reduceNeg, Int.reduceLT, Int.reduceLE, Int.reduceEq, Int.cast_ofNat_Int, eq_self, and_true, true_and, ite_self, true_or, or_true, false_or, or_false, and_false, false_and, not_true_eq_false, not_false_eq_true, if_true, if_false, e_Tokens_readLetters_0, e_Tokens_readLetters_88, h3, g2, g8]
        exact hq
theorem nmf_1 {b : Int} (h : 97 ≤ b ∧ b ≤ 122) : lor_ (lshl_ 0 8) b = b := by
  have := lor_nm (x := 0) (b := b) (by omega) (by omega)
  omega
def pw10 : Nat → Int
  | 0 => 1
  | k + 1 => 10 * pw10 k
theorem dgv_b {T : Int → Int} {q : Int} : ∀ (k : Nat), (∀ i, 0 ≤ i → i < (k : Int) → 48 ≤ T (q + i) ∧ T (q + i) ≤ 57) → 0 ≤ dv T q k ∧ dv T q k < pw10 k := by
  intro k
  induction k with
  | zero => intro _; exact ⟨by show (0 : Int) ≤ 0; omega, by show (0 : Int) < 1; omega⟩
  | succ k ih =>
    intro h
    obtain ⟨a, b⟩ := ih (fun i h0 h1 => h i h0 (by omega))
    have := h k (by omega) (by omega)
    have e1 : dv T q (k + 1) = 10 * dv T q k + (T (q + k) - 48) := rfl
    have e2 : pw10 (k + 1) = 10 * pw10 k := rfl
    rw [e1, e2]
    exact ⟨by omega, by omega⟩
theorem p10_le : ∀ (k : Nat), k ≤ 4 → pw10 k ≤ 10000
  | 0, _ => by decide
  | 1, _ => by decide
  | 2, _ => by decide
  | 3, _ => by decide
  | 4, _ => by decide
  | k + 5, h => by omega
theorem lp_rd (d : Nat) (s : Mem) (T : Int → Int) (n q e : Int) (hT : TX T n) (h8 : ∀ i, 0 ≤ i ∧ i < n → s 8 i = T i) (h2 : s 7 2 = n) (h5 : s 7 5 = q) (hq : 0 ≤ q) (Q : Int → Mem → Prop) (hQ : ∀ t, (∀ c i, ¬ (c = 7 ∧ (i = 3 ∨ i = 6)) → t c i = s c i) → t 7 3 = e → (e - q ≤ 4 → t 7 6 = dv T q (e - q).toNat) → EV d o_Tokens_readDigits 105 [] [7] t Q) : ∀ (m : Nat) (k : Int) (t : Mem), q < k → k + m = n → rux isD T n k = e → (∀ c i, ¬ (c = 7 ∧ (i = 3 ∨ i = 6)) → t c i = s c i) → t 7 3 = k → (k - q ≤ 4 → t 7 6 = dv T q (k - q).toNat) → (∀ i, q ≤ i → i < k → 48 ≤ T i ∧ T i ≤ 57) → EV d o_Tokens_readDigits 16 [] [7] t Q := by
  intro m
  induction m with
  | zero =>
    intro k t hk hkn he hf h3 h6 hb6
    have ek : e = k := by rw [← he]; exact rux_n (fun h => by omega)
    have hq := hQ t hf (by omega) (by rw [ek]; exact h6)
    have g2 : t 7 2 = n := by rw [hf _ _ (by omega)]; exact h2
    rw [e_Tokens_readDigits_16]
    simp (disch := first | assumption | omega) only [rn, wk, al, wr_e, td_e, tm_e, mset_eq, mset_ne, if_pos, if_neg, Int.reduceAdd, Int.reduceSub, Int.reduceMul, Int.reduceNeg, Int.reduceLT, Int.reduceLE, Int.reduceEq, Int.cast_ofNat_Int, eq_self, and_true, true_and, ite_self, true_or, or_true, false_or, or_false, and_false, false_and, not_true_eq_false, not_false_eq_true, if_true, if_false, h3, g2]
    exact hq
  | succ m ih =>
    intro k t hk hkn he hf h3 h6 hb6
    have g2 : t 7 2 = n := by rw [hf _ _ (by omega)]; exact h2
    have g5 : t 7 5 = q := by rw [hf _ _ (by omega)]; exact h5
    have g8 : t 8 k = T k := by rw [hf _ _ (by omega)]; exact h8 k (by omega)
    have hb := hT.2 k (by omega)
    have hn := hT.1
    by_cases c : isD (T k) = true
    · have c' := isD_i.1 c
      have e1 : (k + 1 - q).toNat = (k - q).toNat + 1 := by omega
      have e2 : q + ((k - q).toNat : Int) = k := by omega
      by_cases c4 : k - q < 4
      · have v6 := h6 (by omega)
        have bd := dgv_b (T := T) (q := q) (k - q).toNat (fun i a b => hb6 (q + i) (by omega) (by omega))
        have bp := p10_le (k - q).toNat (by omega)
        rw [← v6] at bd
        have hx := ih (k + 1) (mset (mset t 7 6 (t 7 6 * 10 + (T k - 48))) 7 3 (k + 1)) (by omega) (by omega) (by rw [← he]; exact (rux_y (by omega) c).symm) (fun c i hc => by rw [mset_ne (by omega), mset_ne (by omega)]; exact hf c i hc) (mset_eq rfl rfl) (fun _ => by
          rw [mset_ne (by omega), mset_eq rfl rfl, e1]
          show _ = 10 * dv T q (k - q).toNat + (T (q + ((k - q).toNat : Int)) - 48)
          rw [e2, ← v6]; omega) (fun i a b => by
          by_cases ei : i = k
          · rw [ei]; exact c'
          · exact hb6 i a (by omega))
        rw [e_Tokens_readDigits_16]
        simp (disch := first | assumption | omega) only [rn, wk, al, wr_e, td_e, tm_e, mset_eq, mset_ne, if_pos, if_neg, Int.reduceAdd, Int.reduceSub, Int.reduceMul, Int.reduceNeg, Int.reduceLT, Int.reduceLE, Int.reduceEq, Int.cast_ofNat_Int, eq_self, and_true, true_and, ite_self, true_or, or_true, false_or, or_false, and_false, false_and, not_true_eq_false, not_false_eq_true, if_true, if_false, e_Tokens_readDigits_0, e_Tokens_readDigits_92, e_Tokens_readDigits_123, h3, g2, g8, g5]
        exact hx
      · have hx := ih (k + 1) (mset t 7 3 (k + 1)) (by omega) (by omega) (by rw [← he]; exact (rux_y (by omega) c).symm) (fun c i hc => by rw [mset_ne (by omega)]; exact hf c i hc) (mset_eq rfl rfl) (fun h => by omega) (fun i a b => by
          by_cases ei : i = k
          · rw [ei]; exact c'
          · exact hb6 i a (by omega))
        rw [e_Tokens_readDigits_16]
        simp (disch := first | assumption | omega) only [rn, wk, al, wr_e, td_e, tm_e, mset_eq, mset_ne, if_pos, if_neg, Int.reduceAdd, Int.reduceSub, Int.reduceMul, Int.reduceNeg, Int.reduceLT, Int.reduceLE, Int.reduceEq, Int.cast_ofNat_Int, eq_self, and_true, true_and, ite_self, true_or, or_true, false_or, or_false, and_false, false_and, not_true_eq_false, not_false_eq_true, if_true, if_false, e_Tokens_readDigits_0, e_Tokens_readDigits_92, e_Tokens_readDigits_123, h3, g2, g8, g5]
        exact hx
    · have c' : ¬ (48 ≤ T k ∧ T k ≤ 57) := fun h => c (isD_i.2 h)
      have ek : e = k := by rw [← he]; exact rux_n (fun h => c h.2)
      have hq := hQ t hf (by omega) (by rw [ek]; exact h6)
      rw [e_Tokens_readDigits_16]
      by_cases c1 : 48 ≤ T k
      · simp (disch := first | assumption | omega) only [rn, wk, al, wr_e, td_e, tm_e, mset_eq, mset_ne, if_pos, if_neg, Int.reduceAdd, Int.reduceSub, Int.reduceMul, Int.reduceNeg, Int.reduceLT, Int.reduceLE, Int.reduceEq, Int.cast_ofNat_Int, eq_self, and_true, true_and, ite_self, true_or, or_true, false_or, or_false, and_false, false_and, not_true_eq_false, not_false_eq_true, if_true, if_false, h3, g2, g8]
        exact hq
      · simp (disch := first | assumption | omega) only [rn, wk, al, wr_e, td_e, tm_e, mset_eq, mset_ne, if_pos, if_neg, Int.reduceAdd, Int.reduceSub, Int.reduceMul, Int.reduceNeg, Int.reduceLT, Int.reduceLE, Int.reduceEq, Int.cast_ofNat_Int, eq_self, and_true, true_and, ite_self, true_or, or_true, false_or, or_false, and_false, false_and, not_true_eq_false, not_false_eq_true, if_true, if_false, h3, g2, g8]
        exact hq
