/-! ===== H2: the class advances ===== -/
theorem lp_wn (d : Nat) (s : Mem) (L : Int) (hL : s 7 3 - s 7 5 = L) (hb : 0 ≤ s 7 5 ∧ s 7 5 ≤ 900) (hb3 : 0 ≤ s 7 3 ∧ s 7 3 ≤ 900) : ∀ (m : Nat) (j : Int), 0 ≤ j → j + m = 21 → EV d o_Tokens_wordNumber 2 [] [7, j] s (fun r t => r = (if L ≤ 8 then wn_ (s 7 7) m j else -1) ∧ t = s) := by
  intro m
  induction m with
  | zero =>
    intro j h0 hj
    have ej : j = 21 := by omega
    subst ej
    have e : wn_ (s 7 7) 0 21 = -1 := rfl
    rw [e, ite_self, e_Tokens_wordNumber_2]
    simp (disch := first | assumption | omega) only [rn, wk, al, wr_e, td_e, tm_e, mset_eq, mset_ne, if_pos, if_neg, Int.reduceAdd, Int.reduceSub, Int.reduceMul, Int.reduceNeg, Int.reduceLT, Int.reduceLE, Int.reduceEq, Int.cast_ofNat_Int, eq_self, and_true, true_and, ite_self, true_or, or_true, false_or, or_false, and_false, false_and, not_true_eq_false, not_false_eq_true, if_true, if_false, e_Tokens_wordNumber_0, e_Tokens_wordNumber_39, e_Tokens_wordNumber_45]
  | succ m ih =>
    intro j h0 hj
    have e : wn_ (s 7 7) (m + 1) j = if lget words j.toNat = s 7 7 then j else wn_ (s 7 7) m (j + 1) := rfl
    have hx := ih (j + 1) (by omega) (by omega)
    rw [e, e_Tokens_wordNumber_2]
    by_cases c8 : L ≤ 8
    · rw [if_pos c8]
      rw [if_pos c8] at hx
      by_cases c : lget words j.toNat = s 7 7
      · rw [if_pos c]
        simp (disch := first | assumption | omega) only [rn, wk, al, wr_e, td_e, tm_e, mset_eq, mset_ne, if_pos, if_neg, Int.reduceAdd, Int.reduceSub, Int.reduceMul, Int.reduceNeg, Int.reduceLT, Int.reduceLE, Int.reduceEq, Int.cast_ofNat_Int, eq_self, and_true, true_and, ite_self, true_or, or_true, false_or, or_false, and_false, false_and, not_true_eq_false, not_false_eq_true, if_true, if_false, e_Tokens_wordNumber_0, e_Tokens_wordNumber_39, e_Tokens_wordNumber_45, hL, lcmp_eq, c]
      · rw [if_neg c]
        simp (disch := first | assumption | omega) only [rn, wk, al, wr_e, td_e, tm_e, mset_eq, mset_ne, if_pos, if_neg, Int.reduceAdd, Int.reduceSub, Int.reduceMul, Int.reduceNeg, Int.reduceLT, Int.reduceLE, Int.reduceEq, Int.cast_ofNat_Int, eq_self, and_true, true_and, ite_self, true_or, or_true, false_or, or_false, and_false, false_and, not_true_eq_false, not_false_eq_true, if_true, if_false, e_Tokens_wordNumber_0, e_Tokens_wordNumber_39, e_Tokens_wordNumber_45, hL, lcmp_eq, c]
        exact hx
    · rw [if_neg c8]
      simp (disch := first | assumption | omega) only [rn, wk, al, wr_e, td_e, tm_e, mset_eq, mset_ne, if_pos, if_neg, Int.reduceAdd, Int.reduceSub, Int.reduceMul, Int.reduceNeg, Int.reduceLT, Int.reduceLE, Int.reduceEq, Int.cast_ofNat_Int, eq_self, and_true, true_and, ite_self, true_or, or_true, false_or, or_false, and_false, false_and, not_true_eq_false, not_false_eq_true, if_true, if_false, e_Tokens_wordNumber_0, e_Tokens_wordNumber_39, e_Tokens_wordNumber_45, hL]
theorem q_wordNumber (d : Nat) (s : Mem) (hb : 0 ≤ s 7 5 ∧ s 7 5 ≤ 900) (hb3 : 0 ≤ s 7 3 ∧ s 7 3 ≤ 900) : sem (d + 1) 28 [7] s = some (if s 7 3 - s 7 5 ≤ 8 then wn_ (s 7 7) 21 0 else -1, s) := by
  apply CV_eq; apply c_Tokens_wordNumber
  have hx := lp_wn d s _ rfl hb hb3 21 0 (by omega) (by omega)
  simp (disch := first | assumption | omega) only [rn, wk, al, wr_e, td_e, tm_e, mset_eq, mset_ne, if_pos, if_neg, Int.reduceAdd, Int.reduceSub, Int.reduceMul, Int.reduceNeg, Int.reduceLT, Int.reduceLE, Int.reduceEq, Int.cast_ofNat_Int, eq_self, and_true, true_and, ite_self, true_or, or_true, false_or, or_false, and_false, false_and, not_true_eq_false, not_false_eq_true, if_true, if_false, e_Tokens_wordNumber_0, e_Tokens_wordNumber_39, e_Tokens_wordNumber_45]
  exact hx
theorem lp_adv (d : Nat) (s : Mem) (T : Int → Int) (n q : Int) (hT : TX T n) (h8 : ∀ i, 0 ≤ i ∧ i < n → s 8 i = T i) (h2 : s 7 2 = n) (Q : Int → Mem → Prop) (hQ : EV d o_Tokens_advance 52 [] [7] (mset s 7 3 q) Q) : ∀ (m : Nat) (k : Int) (t : Mem), 0 ≤ k → k + m = n → rux isB T n k = q → (∀ c i, ¬ (c = 7 ∧ i = 3) → t c i = s c i) → t 7 3 = k → EV d o_Tokens_advance 0 [] [7] t Q := by
  have fin : ∀ (k : Int) (t : Mem), k = q → (∀ c i, ¬ (c = 7 ∧ i = 3) → t c i = s c i) → t 7 3 = k → t = mset s 7 3 q := by
    intro k t ek hf h3
    funext c i
    by_cases e : c = 7 ∧ i = 3
    · rw [mset_eq e.1 e.2, e.1, e.2, h3, ek]
    · rw [mset_ne e]; exact hf c i e
  intro m
  induction m with
  | zero =>
    intro k t hk hkn he hf h3
    have ek : k = q := by rw [← he]; exact (rux_n (fun h => by omega)).symm
    have g2 : t 7 2 = n := by rw [hf _ _ (by omega)]; exact h2
    have et := fin k t ek hf h3
    rw [← et] at hQ
    rw [e_Tokens_advance_0]
    simp (disch := first | assumption | omega) only [rn, wk, al, wr_e, td_e, tm_e, mset_eq, mset_ne, if_pos, if_neg, Int.reduceAdd, Int.reduceSub, Int.reduceMul, Int.reduceNeg, Int.reduceLT, Int.reduceLE, Int.reduceEq, Int.cast_ofNat_Int, eq_self, and_true, true_and, ite_self, true_or, or_true, false_or, or_false, and_false, false_and, not_true_eq_false, not_false_eq_true, if_true, if_false, h3, g2]
    exact hQ
  | succ m ih =>
    intro k t hk hkn he hf h3
    have g2 : t 7 2 = n := by rw [hf _ _ (by omega)]; exact h2
    have g8 : t 8 k = T k := by rw [hf _ _ (by omega)]; exact h8 k (by omega)
    have hb := hT.2 k (by omega)
    have hn := hT.1
    by_cases c : isB (T k) = true
    · have c' := isB_i.1 c
      have hx := ih (k + 1) (mset t 7 3 (k + 1)) (by omega) (by omega) (by rw [← he]; exact (rux_y (by omega) c).symm) (fun c i hc => by rw [mset_ne (by omega)]; exact hf c i hc) (mset_eq rfl rfl)
      rw [e_Tokens_advance_0]
      rcases c' with c' | c'
      · simp (disch := first | assumption | omega) only [rn, wk, al, wr_e, td_e, tm_e, mset_eq, mset_ne, if_pos, if_neg, Int.reduceAdd, Int.reduceSub, Int.reduceMul, Int.reduceNeg, Int.reduceLT, Int.reduceLE, Int.reduceEq, Int.cast_ofNat_Int, eq_self, and_true, true_and, ite_self, true_or, or_true, false_or, or_false, and_false, false_and, not_true_eq_false, not_false_eq_true, if_true, if_false, e_Tokens_advance_39, e_Tokens_advance_77, e_Tokens_advance_134, e_Tokens_advance_146, h3, g2, g8, c']
        exact hx
      · simp (disch := first | assumption | omega) only [rn, wk, al, wr_e, td_e, tm_e, mset_eq, mset_ne, if_pos, if_neg, Int.reduceAdd, Int.reduceSub, Int.reduceMul, Int.reduceNeg, Int.reduceLT, Int.reduceLE, Int.reduceEq, Int.cast_ofNat_Int, eq_self, and_true, true_and, ite_self, true_or, or_true, false_or, or_false, and_false, false_and, not_true_eq_false, not_false_eq_true, if_true, if_false, e_Tokens_advance_39, e_Tokens_advance_77, e_Tokens_advance_134, e_Tokens_advance_146, h3, g2, g8, c']
        exact hx
    · have c' : ¬ (T k = 10 ∨ T k = 32) := fun h => c (isB_i.2 h)
      have ek : k = q := by rw [← he]; exact (rux_n (fun h => c h.2)).symm
      have et := fin k t ek hf h3
      rw [← et] at hQ
      rw [e_Tokens_advance_0]
      simp (disch := first | assumption | omega) only [rn, wk, al, wr_e, td_e, tm_e, mset_eq, mset_ne, if_pos, if_neg, Int.reduceAdd, Int.reduceSub, Int.reduceMul, Int.reduceNeg, Int.reduceLT, Int.reduceLE, Int.reduceEq, Int.cast_ofNat_Int, eq_self, and_true, true_and, ite_self, true_or, or_true, false_or, or_false, and_false, false_and, not_true_eq_false, not_false_eq_true, if_true, if_false, h3, g2, g8]
      exact hQ
theorem q_advance (d : Nat) (s : Mem) (T : Int → Int) (n p : Int) (hT : TX T n) (h8 : ∀ i, 0 ≤ i ∧ i < n → s 8 i = T i) (h2 : s 7 2 = n) (h3 : s 7 3 = p) (hp : 0 ≤ p ∧ p ≤ n) : CV (d + 2) 25 [7] s fun _ t => Fta s t ∧ TkC T n p t := by
  obtain ⟨b1, b2, b3⟩ := tke_b (T := T) hp
  have hn := hT.1
  obtain ⟨q, hq⟩ : ∃ q, q = tkq T n p := ⟨_, rfl⟩
  obtain ⟨e, he⟩ : ∃ e, e = tke T n p := ⟨_, rfl⟩
  rw [← hq, ← he] at b2
  rw [← hq] at b1 b3
  rw [← he] at b3
  apply c_Tokens_advance
  refine lp_adv (d + 1) s T n q hT h8 h2 _ ?_ (n - p).toNat p s hp.1 (by omega) hq.symm (fun _ _ _ => rfl) h3
  obtain ⟨t0, ht0⟩ : ∃ t0, t0 = mset s 7 3 q := ⟨_, rfl⟩
  have f0 : ∀ c i, ¬ (c = 7 ∧ i = 3) → t0 c i = s c i := fun c i hc => by rw [ht0, mset_ne (by omega)]
  have g3 : t0 7 3 = q := by rw [ht0, mset_eq rfl rfl]
  have g2 : t0 7 2 = n := by rw [f0 _ _ (by omega)]; exact h2
  rw [← ht0, e_Tokens_advance_52]
  by_cases c0 : n ≤ q
  · have hk : tkk T n p = 0 := by unfold tkk; rw [if_pos (by omega)]
    have hpost : Fta s (mset (mset t0 7 5 q) 7 4 0) ∧ TkC T n p (mset (mset t0 7 5 q) 7 4 0) := by
      refine ⟨fun c i hc => by rw [mset_ne (by omega), mset_ne (by omega)]; exact f0 c i (by omega), ?_, ?_, ?_, ?_, fun h => by omega, fun h => by omega, fun h => by omega⟩
      · rw [mset_ne (by omega), mset_ne (by omega)]; exact g2
      · rw [mset_ne (by omega), mset_eq rfl rfl, hq]
      · rw [mset_ne (by omega), mset_ne (by omega), g3, ← he]; omega
      · rw [mset_eq rfl rfl, hk]
    simp (disch := first | assumption | omega) only [rn, wk, al, wr_e, td_e, tm_e, mset_eq, mset_ne, if_pos, if_neg, Int.reduceAdd, Int.reduceSub, Int.reduceMul, Int.reduceNeg, Int.reduceLT, Int.reduceLE, Int.reduceEq, Int.cast_ofNat_Int, eq_self, and_true, true_and, ite_self, true_or, or_true, false_or, or_false, and_false, false_and, not_true_eq_false, not_false_eq_true, if_true, if_false, g3, g2]
    exact hpost
  · have g8 : t0 8 q = T q := by rw [f0 _ _ (by omega)]; exact h8 q (by omega)
    have hb := hT.2 q (by omega)
    have qk := q_kindOfT d (T q) (mset (mset t0 7 5 q) 7 6 (T q))
    by_cases cL : isL (T q) = true
    · have cL' := isL_i.1 cL
      have hk : tkk T n p = 1 := by unfold tkk; rw [if_neg (by omega), ← hq, if_pos cL]
      have hee : e = rux isL T n q := by rw [he]; unfold tke; rw [if_neg (by omega), ← hq, if_pos cL]
      have e1 : rux isL T n (q + 1) = e := by rw [hee]; exact (rux_y (by omega) cL).symm
      rw [if_pos cL'] at qk
      obtain ⟨t1, ht1⟩ : ∃ t1, t1 = mset (mset (mset (mset t0 7 5 q) 7 6 (T q)) 7 4 1) 7 3 (q + 1) := ⟨_, rfl⟩
      have f1 : ∀ c i, ¬ (c = 7 ∧ (i = 3 ∨ i = 4 ∨ i = 5 ∨ i = 6)) → t1 c i = s c i := fun c i hc => by rw [ht1, mset_ne (by omega), mset_ne (by omega), mset_ne (by omega), mset_ne (by omega)]; exact f0 c i (by omega)
      have k3 : t1 7 3 = q + 1 := by rw [ht1, mset_eq rfl rfl]
      have k4 : t1 7 4 = 1 := by rw [ht1, mset_ne (by omega), mset_eq rfl rfl]
      have k5 : t1 7 5 = q := by rw [ht1, mset_ne (by omega), mset_ne (by omega), mset_ne (by omega), mset_eq rfl rfl]
      have k8 : ∀ i, 0 ≤ i ∧ i < n → t1 8 i = T i := fun i hi => by rw [f1 _ _ (by omega)]; exact h8 i hi
      have k2 : t1 7 2 = n := by rw [f1 _ _ (by omega)]; exact h2
      have hrl : CV (d + 1) 27 [7] t1 fun _ t => (∀ c i, ¬ (c = 7 ∧ (i = 3 ∨ i = 7)) → t c i = t1 c i) ∧ t 7 3 = e ∧ t 7 7 = nmf T q (e - q).toNat := by
        apply c_Tokens_readLetters
        have hx := lp_rl d t1 T n q e hT k8 k2 (by omega) (fun _ t => (∀ c i, ¬ (c = 7 ∧ (i = 3 ∨ i = 7)) → t c i = t1 c i) ∧ t 7 3 = e ∧ t 7 7 = nmf T q (e - q).toNat) (fun t a b c => ⟨a, b, c⟩) (n - (q + 1)).toNat (q + 1) (mset t1 7 7 (T q)) (by omega) (by omega) e1 (fun c i hc => by rw [mset_ne (by omega)]) (by rw [mset_ne (by omega)]; exact k3) (by
          rw [mset_eq rfl rfl, show (q + 1 - q).toNat = 1 by omega]
          show T q = lor_ (lshl_ 0 8) (T (q + 0))
          rw [Int.add_zero, nmf_1 cL'])
        have k8q := k8 q (by omega)
        simp (disch := first | assumption | omega) only [rn, wk, al, wr_e, td_e, tm_e, mset_eq, mset_ne, if_pos, if_neg, Int.reduceAdd, Int.reduceSub, Int.reduceMul, Int.reduceNeg, Int.reduceLT, Int.reduceLE, Int.reduceEq, Int.cast_ofNat_Int, eq_self, and_true, true_and, ite_self, true_or, or_true, false_or, or_false, and_false, false_and, not_true_eq_false, not_false_eq_true, if_true, if_false, e_Tokens_readLetters_0, e_Tokens_readLetters_88, k5, k8q]
        exact hx
      simp (disch := first | assumption | omega) only [rn, wk, al, wr_e, td_e, tm_e, mset_eq, mset_ne, if_pos, if_neg, Int.reduceAdd, Int.reduceSub, Int.reduceMul, Int.reduceNeg, Int.reduceLT, Int.reduceLE, Int.reduceEq, Int.cast_ofNat_Int, eq_self, and_true, true_and, ite_self, true_or, or_true, false_or, or_false, and_false, false_and, not_true_eq_false, not_false_eq_true, if_true, if_false, e_Tokens_advance_39, e_Tokens_advance_52, e_Tokens_advance_77, e_Tokens_advance_134, e_Tokens_advance_146, g3, g2, g8, qk, ← ht1, k4]
      refine EV_call (CV_mono hrl ?_)
      rintro r t ⟨r1, r2, r3⟩
      have m5 : t 7 5 = q := by rw [r1 _ _ (by omega)]; exact k5
      have m4 : t 7 4 = 1 := by rw [r1 _ _ (by omega)]; exact k4
      have m2 : t 7 2 = n := by rw [r1 _ _ (by omega)]; exact k2
      have qw := q_wordNumber d t (by omega) (by omega)
      rw [r2, m5, r3] at qw
      obtain ⟨w, hw⟩ : ∃ w, w = (if e - q ≤ 8 then wn_ (nmf T q (e - q).toNat) 21 0 else -1) := ⟨_, rfl⟩
      rw [← hw] at qw
      have hpost : Fta s (mset t 7 6 w) ∧ TkC T n p (mset t 7 6 w) := by
        refine ⟨fun c i hc => by rw [mset_ne (by omega), r1 c i (by omega)]; exact f1 c i (by omega), ?_, ?_, ?_, ?_, fun _ => ⟨?_, ?_⟩, fun h => by omega, fun h => by omega⟩
        · rw [mset_ne (by omega)]; exact m2
        · rw [mset_ne (by omega), m5, hq]
        · rw [mset_ne (by omega), r2, he]
        · rw [mset_ne (by omega), m4, hk]
        · rw [mset_eq rfl rfl, hw]; unfold wnT nmT; rw [← hq, ← he]
        · rw [mset_ne (by omega), r3]; unfold nmT; rw [← hq, ← he]
      simp (disch := first | assumption | omega) only [rn, wk, al, wr_e, td_e, tm_e, mset_eq, mset_ne, if_pos, if_neg, Int.reduceAdd, Int.reduceSub, Int.reduceMul, Int.reduceNeg, Int.reduceLT, Int.reduceLE, Int.reduceEq, Int.cast_ofNat_Int, eq_self, and_true, true_and, ite_self, true_or, or_true, false_or, or_false, and_false, false_and, not_true_eq_false, not_false_eq_true, if_true, if_false, e_Tokens_advance_39, e_Tokens_advance_52, e_Tokens_advance_77, e_Tokens_advance_134, e_Tokens_advance_146, qw]
      exact hpost
    · have cL' : ¬ (97 ≤ T q ∧ T q ≤ 122) := fun h => cL (isL_i.2 h)
      rw [if_neg cL'] at qk
      by_cases cD : isD (T q) = true
      · have cD' := isD_i.1 cD
        rw [if_pos cD'] at qk
        have hk : tkk T n p = if 4 < e - q then 4 else 2 := by unfold tkk; rw [if_neg (by omega), ← hq, if_neg cL, if_pos cD, ← he]
        have hee : e = rux isD T n q := by rw [he]; unfold tke; rw [if_neg (by omega), ← hq, if_neg cL, if_pos cD]
        have e1 : rux isD T n (q + 1) = e := by rw [hee]; exact (rux_y (by omega) cD).symm
        obtain ⟨t1, ht1⟩ : ∃ t1, t1 = mset (mset (mset (mset t0 7 5 q) 7 6 (T q)) 7 4 2) 7 3 (q + 1) := ⟨_, rfl⟩
        have f1 : ∀ c i, ¬ (c = 7 ∧ (i = 3 ∨ i = 4 ∨ i = 5 ∨ i = 6)) → t1 c i = s c i := fun c i hc => by rw [ht1, mset_ne (by omega), mset_ne (by omega), mset_ne (by omega), mset_ne (by omega)]; exact f0 c i (by omega)
        have k3 : t1 7 3 = q + 1 := by rw [ht1, mset_eq rfl rfl]
        have k4 : t1 7 4 = 2 := by rw [ht1, mset_ne (by omega), mset_eq rfl rfl]
        have k5 : t1 7 5 = q := by rw [ht1, mset_ne (by omega), mset_ne (by omega), mset_ne (by omega), mset_eq rfl rfl]
        have k8 : ∀ i, 0 ≤ i ∧ i < n → t1 8 i = T i := fun i hi => by rw [f1 _ _ (by omega)]; exact h8 i hi
        have k2 : t1 7 2 = n := by rw [f1 _ _ (by omega)]; exact h2
        have hrl : CV (d + 1) 29 [7] t1 fun _ t => (∀ c i, ¬ (c = 7 ∧ (i = 3 ∨ i = 6 ∨ i = 4)) → t c i = t1 c i) ∧ t 7 3 = e ∧ (e - q ≤ 4 → t 7 6 = dv T q (e - q).toNat) ∧ t 7 4 = (if 4 < e - q then 4 else 2) := by
          apply c_Tokens_readDigits
          have hx := lp_rd d t1 T n q e hT k8 k2 k5 (by omega) (fun _ t => (∀ c i, ¬ (c = 7 ∧ (i = 3 ∨ i = 6 ∨ i = 4)) → t c i = t1 c i) ∧ t 7 3 = e ∧ (e - q ≤ 4 → t 7 6 = dv T q (e - q).toNat) ∧ t 7 4 = (if 4 < e - q then 4 else 2)) (fun t a b c => by
            have m5 : t 7 5 = q := by rw [a _ _ (by omega)]; exact k5
            have m4 : t 7 4 = 2 := by rw [a _ _ (by omega)]; exact k4
            rw [e_Tokens_readDigits_105]
            by_cases c4 : 4 < e - q
            · have hp2 : (∀ c i, ¬ (c = 7 ∧ (i = 3 ∨ i = 6 ∨ i = 4)) → mset t 7 4 4 c i = t1 c i) ∧ mset t 7 4 4 7 3 = e ∧ (e - q ≤ 4 → mset t 7 4 4 7 6 = dv T q (e - q).toNat) ∧ mset t 7 4 4 7 4 = (if 4 < e - q then 4 else 2) := ⟨fun c i hc => by rw [mset_ne (by omega)]; exact a c i (by omega), by rw [mset_ne (by omega)]; exact b, fun h => by omega, by rw [mset_eq rfl rfl, if_pos c4]⟩
              simp (disch := first | assumption | omega) only [rn, wk, al, wr_e, td_e, tm_e, mset_eq, mset_ne, if_pos, if_neg, Int.reduceAdd, Int.reduceSub, Int.reduceMul, Int.reduceNeg, Int.reduceLT, Int.reduceLE, Int.reduceEq, Int.cast_ofNat_Int, eq_self, and_true, true_and, ite_self, true_or, or_true, false_or, or_false, and_false, false_and, not_true_eq_false, not_false_eq_true, if_true, if_false, e_Tokens_readDigits_0, e_Tokens_readDigits_92, e_Tokens_readDigits_105, e_Tokens_readDigits_123, b, m5]
              simpa (disch := omega) only [mset_ne, mset_eq, b, if_pos, eq_self, true_and, and_true] using hp2
            · have hp2 : (∀ c i, ¬ (c = 7 ∧ (i = 3 ∨ i = 6 ∨ i = 4)) → t c i = t1 c i) ∧ t 7 3 = e ∧ (e - q ≤ 4 → t 7 6 = dv T q (e - q).toNat) ∧ t 7 4 = (if 4 < e - q then 4 else 2) := ⟨fun c i hc => a c i (by omega), b, c, by rw [m4, if_neg c4]⟩
              simp (disch := first | assumption | omega) only [rn, wk, al, wr_e, td_e, tm_e, mset_eq, mset_ne, if_pos, if_neg, Int.reduceAdd, Int.reduceSub, Int.reduceMul, Int.reduceNeg, Int.reduceLT, Int.reduceLE, Int.reduceEq, Int.cast_ofNat_Int, eq_self, and_true, true_and, ite_self, true_or, or_true, false_or, or_false, and_false, false_and, not_true_eq_false, not_false_eq_true, if_true, if_false, e_Tokens_readDigits_0, e_Tokens_readDigits_92, e_Tokens_readDigits_105, e_Tokens_readDigits_123, b, m5]
              simpa (disch := omega) only [b, m4, if_neg, eq_self, true_and, and_true] using hp2) (n - (q + 1)).toNat (q + 1) (mset t1 7 6 (T q - 48)) (by omega) (by omega) e1 (fun c i hc => by rw [mset_ne (by omega)]) (by rw [mset_ne (by omega)]; exact k3) (fun _ => by
            rw [mset_eq rfl rfl, show (q + 1 - q).toNat = 1 by omega]
            show T q - 48 = 10 * 0 + (T (q + 0) - 48)
            rw [Int.add_zero]; omega) (fun i a b => by
            rw [show i = q by omega]; exact cD')
          have k8q := k8 q (by omega)
          simp (disch := first | assumption | omega) only [rn, wk, al, wr_e, td_e, tm_e, mset_eq, mset_ne, if_pos, if_neg, Int.reduceAdd, Int.reduceSub, Int.reduceMul, Int.reduceNeg, Int.reduceLT, Int.reduceLE, Int.reduceEq, Int.cast_ofNat_Int, eq_self, and_true, true_and, ite_self, true_or, or_true, false_or, or_false, and_false, false_and, not_true_eq_false, not_false_eq_true, if_true, if_false, e_Tokens_readDigits_0, e_Tokens_readDigits_92, e_Tokens_readDigits_123, k5, k8q]
          exact hx
        simp (disch := first | assumption | omega) only [rn, wk, al, wr_e, td_e, tm_e, mset_eq, mset_ne, if_pos, if_neg, Int.reduceAdd, Int.reduceSub, Int.reduceMul, Int.reduceNeg, Int.reduceLT, Int.reduceLE, Int.reduceEq, Int.cast_ofNat_Int, eq_self, and_true, true_and, ite_self, true_or, or_true, false_or, or_false, and_false, false_and, not_true_eq_false, not_false_eq_true, if_true, if_false, e_Tokens_advance_39, e_Tokens_advance_52, e_Tokens_advance_77, e_Tokens_advance_134, e_Tokens_advance_146, g3, g2, g8, qk, ← ht1, k4]
        refine EV_call (CV_mono hrl ?_)
        rintro r t ⟨r1, r2, r3, r4⟩
        have m5 : t 7 5 = q := by rw [r1 _ _ (by omega)]; exact k5
        have m2 : t 7 2 = n := by rw [r1 _ _ (by omega)]; exact k2
        have hpost : Fta s t ∧ TkC T n p t := by
          refine ⟨fun c i hc => by rw [r1 c i (by omega)]; exact f1 c i (by omega), m2, by rw [m5, hq], by rw [r2, he], by rw [r4, hk], fun h => ?_, fun h => ?_, fun h => ?_⟩
          · rw [hk] at h; split at h <;> omega
          · rw [hk] at h
            unfold dvT
            rw [← hq, ← he]
            exact r3 (by split at h <;> omega)
          · rw [hk] at h; split at h <;> omega
        simp (disch := first | assumption | omega) only [rn, wk, al, wr_e, td_e, tm_e, mset_eq, mset_ne, if_pos, if_neg, Int.reduceAdd, Int.reduceSub, Int.reduceMul, Int.reduceNeg, Int.reduceLT, Int.reduceLE, Int.reduceEq, Int.cast_ofNat_Int, eq_self, and_true, true_and, ite_self, true_or, or_true, false_or, or_false, and_false, false_and, not_true_eq_false, not_false_eq_true, if_true, if_false, e_Tokens_advance_39, e_Tokens_advance_52, e_Tokens_advance_77, e_Tokens_advance_134, e_Tokens_advance_146]
        exact hpost
      · have cD' : ¬ (48 ≤ T q ∧ T q ≤ 57) := fun h => cD (isD_i.2 h)
        rw [if_neg cD'] at qk
        obtain ⟨kk, hkk, hk34⟩ : ∃ kk : Int, kk = (if 59 ≤ T q ∧ T q ≤ 62 then 3 else 4) ∧ (kk = 3 ∨ kk = 4) := ⟨_, rfl, by split <;> simp⟩
        rw [← hkk] at qk
        have hk : tkk T n p = kk := by unfold tkk; rw [if_neg (by omega), ← hq, if_neg cL, if_neg cD, hkk]
        have hee : e = q + 1 := by rw [he]; unfold tke; rw [if_neg (by omega), ← hq, if_neg cL, if_neg cD]
        obtain ⟨t1, ht1⟩ : ∃ t1, t1 = mset (mset (mset (mset t0 7 5 q) 7 6 (T q)) 7 4 kk) 7 3 (q + 1) := ⟨_, rfl⟩
        have f1 : ∀ c i, ¬ (c = 7 ∧ (i = 3 ∨ i = 4 ∨ i = 5 ∨ i = 6)) → t1 c i = s c i := fun c i hc => by rw [ht1, mset_ne (by omega), mset_ne (by omega), mset_ne (by omega), mset_ne (by omega)]; exact f0 c i (by omega)
        have k3 : t1 7 3 = q + 1 := by rw [ht1, mset_eq rfl rfl]
        have k4 : t1 7 4 = kk := by rw [ht1, mset_ne (by omega), mset_eq rfl rfl]
        have k6 : t1 7 6 = T q := by rw [ht1, mset_ne (by omega), mset_ne (by omega), mset_eq rfl rfl]
        have k5 : t1 7 5 = q := by rw [ht1, mset_ne (by omega), mset_ne (by omega), mset_ne (by omega), mset_eq rfl rfl]
        have k2 : t1 7 2 = n := by rw [f1 _ _ (by omega)]; exact h2
        have hpost : Fta s t1 ∧ TkC T n p t1 := ⟨fun c i hc => f1 c i (by omega), k2, by rw [k5, hq], by rw [k3, ← he, hee], by rw [k4, hk], fun h => by omega, fun h => by omega, fun h => by rw [k6, hq]⟩
        simp (disch := first | assumption | omega) only [rn, wk, al, wr_e, td_e, tm_e, mset_eq, mset_ne, if_pos, if_neg, Int.reduceAdd, Int.reduceSub, Int.reduceMul, Int.reduceNeg, Int.reduceLT, Int.reduceLE, Int.reduceEq, Int.cast_ofNat_Int, eq_self, and_true, true_and, ite_self, true_or, or_true, false_or, or_false, and_false, false_and, not_true_eq_false, not_false_eq_true, if_true, if_false, e_Tokens_advance_39, e_Tokens_advance_52, e_Tokens_advance_77, e_Tokens_advance_134, e_Tokens_advance_146, g3, g2, g8, qk, ← ht1, k4]
        exact hpost
