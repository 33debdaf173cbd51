/-! ===== H2: hall alike ===== -/
theorem HP_init {A : Mem} {B N : Int → Int} (a0 : A 0 0 = 4) (a : ∀ i, 1 ≤ i ∧ i ≤ 6 → A 0 i = 0) (a12 : A 12 0 = 0) (b : ∀ i, (0 ≤ i ∧ i ≤ 4) ∨ i = 6 ∨ (54 ≤ i ∧ i < 109) → B i = 0) (b5 : B 5 = 4) (b7 : B 7 = -1) : HP A B N := by
  have a1 := a 1 (by omega)
  have a2 := a 2 (by omega)
  have a3 := a 3 (by omega)
  have a4 := a 4 (by omega)
  have a5 := a 5 (by omega)
  have a6 := a 6 (by omega)
  refine ⟨?_, ⟨fun w hw => by omega, fun w hw => by omega⟩, ⟨fun w hw => by omega, fun w hw => by omega⟩, ⟨fun w hw => by omega, fun w hw => by omega⟩, ⟨a6, a12, b7⟩, ?_, fun k hk => by omega, ⟨fun i hi => by omega, fun i hi => by omega, fun i hi => by omega⟩, fun c hc => ⟨fun _ => b _ (by omega), fun k i hk hi _ => b _ (by omega)⟩⟩
  · unfold VC; omega
  · unfold RC
    rw [b 0 (by omega), b 1 (by omega), b 2 (by omega), b 3 (by omega), b 4 (by omega), b 6 (by omega), b5, a0, a1, a2, a3, a4, a5, a6]
    exact ⟨rfl, rfl, rfl, rfl, rfl, rfl, rfl⟩
theorem q_Tbegin (d : Nat) (n : Int) (s : Mem) : sem (d + 1) 21 [7, n] s = some (0, mset (mset (mset (mset (mset s 7 1 0) 7 2 n) 7 3 0) 7 8 0) 7 9 (-1)) := by
  apply CV_eq; apply c_Tokens_begin
  simp (disch := first | assumption | omega) only [rn, wk, al, wr_e, td_e, tm_e, mset_eq, mset_ne, if_pos, if_neg, Int.reduceAdd, Int.reduceSub, Int.reduceMul, Int.reduceNeg, Int.reduceLT, Int.reduceLE, Int.reduceEq, Int.cast_ofNat_Int, eq_self, and_true, true_and, ite_self, true_or, or_true, false_or, or_false, and_false, false_and, not_true_eq_false, not_false_eq_true, if_true, if_false, e_Tokens_begin_0]
theorem q_stepsClear (d : Nat) (h : Int) (s : Mem) : sem (d + 1) 24 [h] s = some (0, mset (mset (mset s h 0 0) h 1 0) h 2 0) := by
  apply CV_eq; apply c_Steps_clear
  simp (disch := first | assumption | omega) only [rn, wk, al, wr_e, td_e, tm_e, mset_eq, mset_ne, if_pos, if_neg, Int.reduceAdd, Int.reduceSub, Int.reduceMul, Int.reduceNeg, Int.reduceLT, Int.reduceLE, Int.reduceEq, Int.cast_ofNat_Int, eq_self, and_true, true_and, ite_self, true_or, or_true, false_or, or_false, and_false, false_and, not_true_eq_false, not_false_eq_true, if_true, if_false, e_Steps_clear_0]
theorem q_hallClear (d : Nat) (s : Mem) : CV (d + 2) 23 [57] s fun _ t => (∀ c i, ¬ (c = 57 ∧ 0 ≤ i ∧ i ≤ 6) → ¬ (c = 69 ∧ 0 ≤ i ∧ i ≤ 2) → t c i = s c i) ∧ t 57 0 = 4 ∧ (∀ i, 1 ≤ i ∧ i ≤ 6 → t 57 i = 0) ∧ ∀ i, 0 ≤ i ∧ i ≤ 2 → t 69 i = 0 := by
  have hq : (∀ c i, ¬ (c = 57 ∧ 0 ≤ i ∧ i ≤ 6) → ¬ (c = 69 ∧ 0 ≤ i ∧ i ≤ 2) → mset (mset (mset (mset (mset (mset (mset (mset (mset (mset s 57 0 4) 57 1 0) 57 2 0) 57 3 0) 57 4 0) 57 5 0) 57 6 0) 69 0 0) 69 1 0) 69 2 0 c i = s c i) ∧ mset (mset (mset (mset (mset (mset (mset (mset (mset (mset s 57 0 4) 57 1 0) 57 2 0) 57 3 0) 57 4 0) 57 5 0) 57 6 0) 69 0 0) 69 1 0) 69 2 0 57 0 = 4 ∧ (∀ i, 1 ≤ i ∧ i ≤ 6 → mset (mset (mset (mset (mset (mset (mset (mset (mset (mset s 57 0 4) 57 1 0) 57 2 0) 57 3 0) 57 4 0) 57 5 0) 57 6 0) 69 0 0) 69 1 0) 69 2 0 57 i = 0) ∧ ∀ i, 0 ≤ i ∧ i ≤ 2 → mset (mset (mset (mset (mset (mset (mset (mset (mset (mset s 57 0 4) 57 1 0) 57 2 0) 57 3 0) 57 4 0) 57 5 0) 57 6 0) 69 0 0) 69 1 0) 69 2 0 69 i = 0 := by
    refine ⟨fun c i h1 h2 => by simp (disch := omega) only [mset_ne], by simp (disch := omega) only [mset_ne, mset_eq], fun i hi => ?_, fun i hi => ?_⟩
    · obtain rfl | rfl | rfl | rfl | rfl | rfl : i = 1 ∨ i = 2 ∨ i = 3 ∨ i = 4 ∨ i = 5 ∨ i = 6 := by omega
      all_goals simp (disch := omega) only [mset_ne, mset_eq]
    · obtain rfl | rfl | rfl : i = 0 ∨ i = 1 ∨ i = 2 := by omega
      all_goals simp (disch := omega) only [mset_ne, mset_eq]
  obtain ⟨t, ht⟩ : ∃ t, t = mset (mset (mset (mset (mset (mset (mset (mset (mset (mset s 57 0 4) 57 1 0) 57 2 0) 57 3 0) 57 4 0) 57 5 0) 57 6 0) 69 0 0) 69 1 0) 69 2 0 := ⟨_, rfl⟩
  rw [← ht] at hq
  have q := q_stepsClear d 69 (mset (mset (mset (mset (mset (mset (mset s 57 0 4) 57 1 0) 57 2 0) 57 3 0) 57 4 0) 57 5 0) 57 6 0)
  rw [← ht] at q
  apply c_Hall_clear
  simp (disch := first | assumption | omega) only [rn, wk, al, wr_e, td_e, tm_e, mset_eq, mset_ne, if_pos, if_neg, Int.reduceAdd, Int.reduceSub, Int.reduceMul, Int.reduceNeg, Int.reduceLT, Int.reduceLE, Int.reduceEq, Int.cast_ofNat_Int, eq_self, and_true, true_and, ite_self, true_or, or_true, false_or, or_false, and_false, false_and, not_true_eq_false, not_false_eq_true, if_true, if_false, e_Hall_clear_0, q]
  exact hq
theorem lp_bg (d : Nat) {T : Int → Int} {n most : Int} (hT : TX T n) (u : Mem) (h143 : ∀ i, 0 ≤ i ∧ i < n → u 143 i = T i) (Q : Int → Mem → Prop) (hQ : ∀ w, (∀ c i, c ≠ 144 → w c i = u c i) → (∀ i, 0 ≤ i ∧ i < n → w 144 i = T i) → EV d o_R_begins 49 [] [137, n, most, n] w Q) : ∀ (m : Nat) (k : Int) (w : Mem), 0 ≤ k → k + m = n → (∀ c i, c ≠ 144 → w c i = u c i) → (∀ i, 0 ≤ i ∧ i < k → w 144 i = T i) → EV d o_R_begins 26 [] [137, n, most, k] w Q := by
  have hn := hT.1
  intro m
  induction m with
  | zero =>
    intro k w h0 hk hf h1
    have ek : k = n := by omega
    subst ek
    have hx := hQ w hf h1
    rw [e_R_begins_26]
    simp (disch := first | assumption | omega) only [rn, wk, al, wr_e, td_e, tm_e, mset_eq, mset_ne, if_pos, if_neg, Int.reduceAdd, Int.reduceSub, Int.reduceMul, Int.reduceNeg, Int.reduceLT, Int.reduceLE, Int.reduceEq, Int.cast_ofNat_Int, eq_self, and_true, true_and, ite_self, true_or, or_true, false_or, or_false, and_false, false_and, not_true_eq_false, not_false_eq_true, if_true, if_false]
    exact hx
  | succ m ih =>
    intro k w h0 hk hf h1
    have hb := hT.2 k (by omega)
    have e : w 143 k = T k := by rw [hf _ _ (by omega)]; exact h143 k (by omega)
    have e8 : w8 (T k) = T k := by unfold w8; omega
    have hx := ih (k + 1) (mset w 144 k (T k)) (by omega) (by omega) (fun c i hc => by rw [mset_ne (by omega)]; exact hf c i hc) (fun i hi => by
      by_cases ei : i = k
      · rw [ei, mset_eq rfl rfl]
      · rw [mset_ne (by omega)]; exact h1 i (by omega))
    rw [e_R_begins_26]
    simp (disch := first | assumption | omega) only [rn, wk, al, wr_e, td_e, tm_e, mset_eq, mset_ne, if_pos, if_neg, Int.reduceAdd, Int.reduceSub, Int.reduceMul, Int.reduceNeg, Int.reduceLT, Int.reduceLE, Int.reduceEq, Int.cast_ofNat_Int, eq_self, and_true, true_and, ite_self, true_or, or_true, false_or, or_false, and_false, false_and, not_true_eq_false, not_false_eq_true, if_true, if_false, e, e8]
    exact hx
theorem q_begins (d : Nat) {T : Int → Int} {n : Int} (most : Int) (hT : TX T n) (u : Mem) (h10 : n ≤ u 137 10) (hm : n ≤ most) (h143 : ∀ i, 0 ≤ i ∧ i < n → u 143 i = T i) : CV (d + 3) 228 [137, n, most] u fun r w => r = 1 ∧ Rs_ T n 0 w ∧ w 137 10 = 0 ∧ w 137 17 = -1 ∧ ∀ c i, ¬ (c = 137 ∧ ((10 ≤ i ∧ i ≤ 15) ∨ (17 ≤ i ∧ i ≤ 19))) → c ≠ 144 → w c i = u c i := by
  have hn := hT.1
  have hx := lp_bg (d + 2) (most := most) hT (mset u 137 11 n) (fun i hi => by rw [mset_ne (by omega)]; exact h143 i hi) (fun r w => r = 1 ∧ Rs_ T n 0 w ∧ w 137 10 = 0 ∧ w 137 17 = -1 ∧ ∀ c i, ¬ (c = 137 ∧ ((10 ≤ i ∧ i ≤ 15) ∨ (17 ≤ i ∧ i ≤ 19))) → c ≠ 144 → w c i = u c i) (fun w wf w4 => by
    obtain ⟨x, hx⟩ : ∃ x, x = mset (mset (mset (mset (mset w 137 10 0) 137 18 0) 137 17 (-1)) 137 14 0) 137 19 0 := ⟨_, rfl⟩
    have xf : ∀ c i, ¬ (c = 137 ∧ (i = 10 ∨ i = 18 ∨ i = 17 ∨ i = 14 ∨ i = 19)) → x c i = w c i := fun c i h => by rw [hx]; simp (disch := omega) only [mset_ne]
    have x10 : x 137 10 = 0 := by rw [hx]; simp (disch := omega) only [mset_ne, mset_eq]
    have x18 : x 137 18 = 0 := by rw [hx]; simp (disch := omega) only [mset_ne, mset_eq]
    have x17 : x 137 17 = -1 := by rw [hx]; simp (disch := omega) only [mset_ne, mset_eq]
    have x14 : x 137 14 = 0 := by rw [hx]; simp (disch := omega) only [mset_ne, mset_eq]
    have x11 : x 137 11 = n := by rw [xf _ _ (by omega), wf _ _ (by omega), mset_eq rfl rfl]
    have x44 : ∀ i, 0 ≤ i ∧ i < n → x 144 i = T i := fun i hi => by rw [xf _ _ (by omega)]; exact w4 i hi
    rw [e_R_begins_49]
    simp (disch := first | assumption | omega) only [rn, wk, al, wr_e, td_e, tm_e, mset_eq, mset_ne, if_pos, if_neg, Int.reduceAdd, Int.reduceSub, Int.reduceMul, Int.reduceNeg, Int.reduceLT, Int.reduceLE, Int.reduceEq, Int.cast_ofNat_Int, eq_self, and_true, true_and, ite_self, true_or, or_true, false_or, or_false, and_false, false_and, not_true_eq_false, not_false_eq_true, if_true, if_false, ← hx]
    refine EV_call (CV_mono (q_ahead d x T n 0 hT x44 x11 x14 (by omega)) ?_)
    rintro r y ⟨a, b⟩
    have h1 : Rs_ T n 0 y := ⟨by omega, b, ⟨by rw [a _ _ (by omega)]; exact x18, by rw [a _ _ (by omega)]; exact x17⟩, fun i hi => by rw [a _ _ (by omega)]; exact x44 i hi⟩
    have h2 : y 137 10 = 0 := by rw [a _ _ (by omega)]; exact x10
    have h3 : y 137 17 = -1 := by rw [a _ _ (by omega)]; exact x17
    have h4 : ∀ c i, ¬ (c = 137 ∧ ((10 ≤ i ∧ i ≤ 15) ∨ (17 ≤ i ∧ i ≤ 19))) → c ≠ 144 → y c i = u c i := fun c i g1 g2 => by rw [a c i (by omega), xf c i (by omega), wf c i g2, mset_ne (by omega)]
    simp (disch := first | assumption | omega) only [rn, wk, al, wr_e, td_e, tm_e, mset_eq, mset_ne, if_pos, if_neg, Int.reduceAdd, Int.reduceSub, Int.reduceMul, Int.reduceNeg, Int.reduceLT, Int.reduceLE, Int.reduceEq, Int.cast_ofNat_Int, eq_self, and_true, true_and, ite_self, true_or, or_true, false_or, or_false, and_false, false_and, not_true_eq_false, not_false_eq_true, if_true, if_false]
    exact ⟨h1, h2, h3, h4⟩) n.toNat 0 (mset u 137 11 n) (by omega) (by omega) (fun _ _ _ => rfl) (fun i hi => by omega)
  apply c_R_begins
  simp (disch := first | assumption | omega) only [rn, wk, al, wr_e, td_e, tm_e, mset_eq, mset_ne, if_pos, if_neg, Int.reduceAdd, Int.reduceSub, Int.reduceMul, Int.reduceNeg, Int.reduceLT, Int.reduceLE, Int.reduceEq, Int.cast_ofNat_Int, eq_self, and_true, true_and, ite_self, true_or, or_true, false_or, or_false, and_false, false_and, not_true_eq_false, not_false_eq_true, if_true, if_false, e_R_begins_0, e_R_begins_17, e_R_begins_19]
  exact hx
theorem lp_h59 (d : Nat) (n g : Int) (u : Mem) (Q : Int → Mem → Prop) (hQ : ∀ w, (∀ c i, ¬ (c = 138 ∧ 0 ≤ i ∧ i < 868) → w c i = u c i) → (∀ i, 0 ≤ i ∧ i < 868 → w 138 i = u 138 (3472 + i)) → EV d o_R_hall 88 [] [137, n, g, 868] w Q) : ∀ (m : Nat) (k : Int) (w : Mem), 0 ≤ k → k + m = 868 → (∀ c i, ¬ (c = 138 ∧ 0 ≤ i ∧ i < 868) → w c i = u c i) → (∀ i, 0 ≤ i ∧ i < k → w 138 i = u 138 (3472 + i)) → EV d o_R_hall 59 [] [137, n, g, k] w Q := by
  intro m
  induction m with
  | zero =>
    intro k w h0 hk hf h1
    have ek : k = 868 := by omega
    subst ek
    have hx := hQ w hf h1
    rw [e_R_hall_59]
    simp (disch := first | assumption | omega) only [rn, wk, al, wr_e, td_e, tm_e, mset_eq, mset_ne, if_pos, if_neg, Int.reduceAdd, Int.reduceSub, Int.reduceMul, Int.reduceNeg, Int.reduceLT, Int.reduceLE, Int.reduceEq, Int.cast_ofNat_Int, eq_self, and_true, true_and, ite_self, true_or, or_true, false_or, or_false, and_false, false_and, not_true_eq_false, not_false_eq_true, if_true, if_false]
    exact hx
  | succ m ih =>
    intro k w h0 hk hf h1
    have e := hf 138 (3472 + k) (by omega)
    have hx := ih (k + 1) (mset w 138 k (u 138 (3472 + k))) (by omega) (by omega) (fun c i hc => by rw [mset_ne (by omega)]; exact hf c i hc) (fun i hi => by
      by_cases ei : i = k
      · rw [ei, mset_eq rfl rfl]
      · rw [mset_ne (by omega)]; exact h1 i (by omega))
    rw [e_R_hall_59]
    simp (disch := first | assumption | omega) only [rn, wk, al, wr_e, td_e, tm_e, mset_eq, mset_ne, if_pos, if_neg, Int.reduceAdd, Int.reduceSub, Int.reduceMul, Int.reduceNeg, Int.reduceLT, Int.reduceLE, Int.reduceEq, Int.cast_ofNat_Int, eq_self, and_true, true_and, ite_self, true_or, or_true, false_or, or_false, and_false, false_and, not_true_eq_false, not_false_eq_true, if_true, if_false, e]
    exact hx
theorem lp_h90 (d : Nat) (n g : Int) (u : Mem) (Q : Int → Mem → Prop) (hQ : ∀ w, (∀ c i, ¬ (c = 139 ∧ 0 ≤ i ∧ i < 16) → w c i = u c i) → (∀ i, 0 ≤ i ∧ i < 16 → w 139 i = u 139 (64 + i)) → EV d o_R_hall 117 [] [137, n, g, 16] w Q) : ∀ (m : Nat) (k : Int) (w : Mem), 0 ≤ k → k + m = 16 → (∀ c i, ¬ (c = 139 ∧ 0 ≤ i ∧ i < 16) → w c i = u c i) → (∀ i, 0 ≤ i ∧ i < k → w 139 i = u 139 (64 + i)) → EV d o_R_hall 90 [] [137, n, g, k] w Q := by
  intro m
  induction m with
  | zero =>
    intro k w h0 hk hf h1
    have ek : k = 16 := by omega
    subst ek
    have hx := hQ w hf h1
    rw [e_R_hall_90]
    simp (disch := first | assumption | omega) only [rn, wk, al, wr_e, td_e, tm_e, mset_eq, mset_ne, if_pos, if_neg, Int.reduceAdd, Int.reduceSub, Int.reduceMul, Int.reduceNeg, Int.reduceLT, Int.reduceLE, Int.reduceEq, Int.cast_ofNat_Int, eq_self, and_true, true_and, ite_self, true_or, or_true, false_or, or_false, and_false, false_and, not_true_eq_false, not_false_eq_true, if_true, if_false]
    exact hx
  | succ m ih =>
    intro k w h0 hk hf h1
    have e := hf 139 (64 + k) (by omega)
    have hx := ih (k + 1) (mset w 139 k (u 139 (64 + k))) (by omega) (by omega) (fun c i hc => by rw [mset_ne (by omega)]; exact hf c i hc) (fun i hi => by
      by_cases ei : i = k
      · rw [ei, mset_eq rfl rfl]
      · rw [mset_ne (by omega)]; exact h1 i (by omega))
    rw [e_R_hall_90]
    simp (disch := first | assumption | omega) only [rn, wk, al, wr_e, td_e, tm_e, mset_eq, mset_ne, if_pos, if_neg, Int.reduceAdd, Int.reduceSub, Int.reduceMul, Int.reduceNeg, Int.reduceLT, Int.reduceLE, Int.reduceEq, Int.cast_ofNat_Int, eq_self, and_true, true_and, ite_self, true_or, or_true, false_or, or_false, and_false, false_and, not_true_eq_false, not_false_eq_true, if_true, if_false, e]
    exact hx
