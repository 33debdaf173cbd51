/-! ===== H2: record, differs ===== -/
theorem lp_records (d : Nat) (v : Mem) (a : Int) (Q : Int → Mem → Prop) (hQ : ∀ u, (∀ c i, ¬ (c = 138 ∧ 134 ≤ i ∧ i < 498) → u c i = v c i) → (∀ j, 0 ≤ j ∧ j < 364 → u 138 (134 + j) = v 147 j) → Q a (mset u 138 6 1)) : ∀ (n : Nat) (k : Int) (u : Mem), 0 ≤ k → k + n = 364 → (∀ c i, ¬ (c = 138 ∧ 134 ≤ i ∧ i < 498) → u c i = v c i) → (∀ j, 0 ≤ j ∧ j < k → u 138 (134 + j) = v 147 j) → EV d o_R_records 7 [] [137, a, k] u Q := by
  intro n
  induction n with
  | zero =>
    intro k u h0 hk hf hu
    have ek : k = 364 := by omega
    subst ek
    rw [e_R_records_7]
    simp (disch := first | assumption | omega) only [rn, wk, al, wr_e, td_e, tm_e, mset_eq, mset_ne, if_pos, if_neg, Int.reduceAdd, Int.reduceSub, Int.reduceMul, Int.reduceNeg, Int.reduceLT, Int.reduceLE, Int.reduceEq, Int.cast_ofNat_Int, eq_self, and_true, true_and, ite_self, true_or, or_true, false_or, or_false, and_false, false_and, not_true_eq_false, not_false_eq_true, if_true, if_false, e_R_records_0, e_R_records_36]
    exact hQ u hf hu
  | succ n ih =>
    intro k u h0 hk hf hu
    have g : u 147 k = v 147 k := hf _ _ (by omega)
    rw [e_R_records_7]
    simp (disch := first | assumption | omega) only [rn, wk, al, wr_e, td_e, tm_e, mset_eq, mset_ne, if_pos, if_neg, Int.reduceAdd, Int.reduceSub, Int.reduceMul, Int.reduceNeg, Int.reduceLT, Int.reduceLE, Int.reduceEq, Int.cast_ofNat_Int, eq_self, and_true, true_and, ite_self, true_or, or_true, false_or, or_false, and_false, false_and, not_true_eq_false, not_false_eq_true, if_true, if_false, g]
    refine ih (k + 1) _ (by omega) (by omega) ?_ ?_
    · intro c i h
      rw [mset_ne (by omega)]; exact hf c i h
    · intro j hj
      by_cases e : j = k
      · rw [e, mset_eq rfl rfl]
      · rw [mset_ne (by omega)]; exact hu j (by omega)
/-- what records leaves -/
def rcP (A s u : Mem) : Prop := (∀ c i, c ≠ 147 → c ≠ 146 → ¬ (c = 137 ∧ (i = 26 ∨ i = 27)) → ¬ (c = 138 ∧ (i = 6 ∨ (134 ≤ i ∧ i < 498))) → u c i = s c i) ∧ u 138 6 = 1 ∧ ∀ x b, 0 ≤ x ∧ x < 4 → 0 ≤ b ∧ b < 91 → u 138 (134 + 91 * x + b) = if x < A 0 3 then sb A x b else 0
theorem q_records (d : Nat) (A s : Mem) (h : RA A s) (hk : vKs A) : CV (d + 8) 297 [137] s fun r u => r = sg (tO A) 0 (A 0 3).toNat ∧ rcP A s u := by
  apply c_R_records
  simp (disch := first | assumption | omega) only [rn, wk, al, wr_e, td_e, tm_e, mset_eq, mset_ne, if_pos, if_neg, Int.reduceAdd, Int.reduceSub, Int.reduceMul, Int.reduceNeg, Int.reduceLT, Int.reduceLE, Int.reduceEq, Int.cast_ofNat_Int, eq_self, and_true, true_and, ite_self, true_or, or_true, false_or, or_false, and_false, false_and, not_true_eq_false, not_false_eq_true, if_true, if_false, e_R_records_0, e_R_records_36]
  refine EV_call (CV_mono (q_allSums d A s h hk) ?_)
  rintro r v ⟨rfl, v1, v2, v3, v4⟩
  refine lp_records _ v _ _ ?_ 364 0 v (by omega) (by omega) (fun _ _ _ => rfl) (fun j hj => by omega)
  intro u u1 u2
  refine ⟨rfl, ?_, mset_eq rfl rfl, ?_⟩
  · intro c i a b e f
    rw [mset_ne (by omega), u1 c i (by omega), v1 c i a b e]
  · intro x b hx hb
    rw [mset_ne (by omega), show 134 + 91 * x + b = 134 + (91 * x + b) by omega, u2 _ (by omega), v4 x b hx hb]
theorem ak_record (d : Nat) : Ak (d + 30) 111 296 [] := by
  apply ak_of; intro s hi
  have hc := inv_c hi
  have hr := inv_rc hi
  have hv := VB_of (inv_va hi)
  have hk := vKs_of hi.2.2.2.2.1
  apply c_M_record
  simp (disch := first | assumption | omega) only [rn, wk, al, wr_e, td_e, tm_e, mset_eq, mset_ne, if_pos, if_neg, Int.reduceAdd, Int.reduceSub, Int.reduceMul, Int.reduceNeg, Int.reduceLT, Int.reduceLE, Int.reduceEq, Int.cast_ofNat_Int, eq_self, and_true, true_and, ite_self, true_or, or_true, false_or, or_false, and_false, false_and, not_true_eq_false, not_false_eq_true, if_true, if_false, e_M_record_0]
  refine EV_call (CV_mono (q_keepSums _ isH37 s hv hk) ?_)
  rintro r v ⟨v1, v2, v3⟩
  have w0 : ∀ i, 0 ≤ i → i ≤ 5 → win v 37 0 i = win s 37 0 i := fun i a b => v1 37 i (by omega) (by omega)
  have wk0 : ∀ k, 0 < k → k < 20 → k ≠ 10 → win v 37 k = win s 37 k := fun k a b c => funext fun i => v1 _ _ (by omega) (by omega)
  have hv2 : VB (win v 37) := VB_pt w0 (by show 0 ≤ v 37 6 ∧ v 37 6 ≤ 1; rw [v2]; omega) wk0 hv
  have hk2 : vKs (win v 37) := vKs_pt w0 wk0 hk
  have qt := q_total (d + 24) isH37 v hv2 hk2
  have e3 : v 37 3 = s 37 3 := v1 _ _ (by omega) (by omega)
  have et : sg (tO (win v 37)) 0 (v 37 3).toNat = sg (tO (win s 37)) 0 (s 37 3).toNat := by
    rw [e3]
    exact sg_congr _ _ (fun i _ _ => tO_congr (w0 5 (by omega) (by omega)) wk0 i)
  rw [et] at qt
  simp (disch := first | assumption | omega) only [rn, wk, al, wr_e, td_e, tm_e, mset_eq, mset_ne, if_pos, if_neg, Int.reduceAdd, Int.reduceSub, Int.reduceMul, Int.reduceNeg, Int.reduceLT, Int.reduceLE, Int.reduceEq, Int.cast_ofNat_Int, eq_self, and_true, true_and, ite_self, true_or, or_true, false_or, or_false, and_false, false_and, not_true_eq_false, not_false_eq_true, if_true, if_false, qt, q_pass]
  have e138 : mset v 0 0 0 138 = s 138 := by rw [mset_nc (by omega)]; funext i; exact v1 _ _ (by omega) (by omega)
  apply c_R_record
  simp (disch := first | assumption | omega) only [rn, wk, al, wr_e, td_e, tm_e, mset_eq, mset_ne, if_pos, if_neg, Int.reduceAdd, Int.reduceSub, Int.reduceMul, Int.reduceNeg, Int.reduceLT, Int.reduceLE, Int.reduceEq, Int.cast_ofNat_Int, eq_self, and_true, true_and, ite_self, true_or, or_true, false_or, or_false, and_false, false_and, not_true_eq_false, not_false_eq_true, if_true, if_false, e_R_record_0]
  refine EV_call (CV_mono (q_records _ (win s 37) (mset v 0 0 0) (RA_congr e138 (RA_of hi.2.2.2.2.1)) hk) ?_)
  rintro r' u ⟨rfl, u1, u2, u3⟩
  simp (disch := first | assumption | omega) only [rn, wk, al, wr_e, td_e, tm_e, mset_eq, mset_ne, if_pos, if_neg, Int.reduceAdd, Int.reduceSub, Int.reduceMul, Int.reduceNeg, Int.reduceLT, Int.reduceLE, Int.reduceEq, Int.cast_ofNat_Int, eq_self, and_true, true_and, ite_self, true_or, or_true, false_or, or_false, and_false, false_and, not_true_eq_false, not_false_eq_true, if_true, if_false, q_gives]
  refine ⟨rfl, ?_⟩
  have G : ∀ c i, c ≠ 147 → c ≠ 146 → ¬ (c = 137 ∧ (i = 26 ∨ i = 27)) → ¬ (c = 138 ∧ (i = 6 ∨ (134 ≤ i ∧ i < 498))) → c ≠ 47 → ¬ (c = 37 ∧ i = 6) → ¬ (c = 0 ∧ i = 0) → u c i = s c i := fun c i a b e f g h j => by
    rw [u1 c i a b e f, mset_ne j, v1 c i (by omega) h]
  have g47 : ∀ i, u 47 i = v 47 i := fun i => by rw [u1 _ _ (by omega) (by omega) (by omega) (by omega), mset_ne (by omega)]
  have v3' : ∀ x b, 0 ≤ x ∧ x < 4 → 0 ≤ b ∧ b < 91 → v 47 (4 * b + x) = if x < s 37 3 then sb (win s 37) x b else 0 := v3
  refine inv_up hi ?_ ?_ ?_
  · rw [mset_eq rfl rfl, mset_ne (by omega), u1 _ _ (by omega) (by omega) (by omega) (by omega), mset_eq rfl rfl]
  · intro c i hv h1 h2 h3
    unfold Rv at hv
    rw [mset_ne (by omega)]
    exact G c i (by omega) (by omega) (by omega) (by omega) (by omega) (by omega) (by omega)
  · refine HR_rec hi.2.2.2.2.1 ?_ ?_ ?_ ?_ ?_ ?_ ?_
    · intro k i a b e f
      simp (disch := omega) only [win, mset_ne]
      exact G _ _ (by omega) (by omega) (by omega) (by omega) (by omega) (by omega) (by omega)
    · simp (disch := omega) only [win, mset_ne, Int.reduceAdd]
      rw [u1 _ _ (by omega) (by omega) (by omega) (by omega), mset_ne (by omega), v2]
    · intro x b hx hb
      simp (disch := omega) only [win, mset_ne, Int.reduceAdd]
      rw [g47, v3' x b hx hb]
      by_cases c : x < s 37 3
      · have := sb_ok hv hk b (x := x) (show 0 ≤ x ∧ x < s 37 3 by omega)
        rw [if_pos c]; omega
      · rw [if_neg c]; omega
    · intro i a b e f
      rw [mset_ne (by omega)]
      exact G _ _ (by omega) (by omega) (by omega) (by omega) (by omega) (by omega) (by omega)
    · rw [mset_ne (by omega)]; exact u2
    · intro x b hx hb
      simp (disch := omega) only [win, mset_ne, Int.reduceAdd]
      rw [g47, v3' x b hx hb, u3 x b hx hb]; rfl
    · intro i a b
      rw [mset_ne (by omega)]
      exact G _ _ (by omega) (by omega) (by omega) (by omega) (by omega) (by omega) (by omega)
def ne_ (x y : Int) : Int := if x = y then 0 else 1
theorem lp_Mdiff (d : Nat) (u : Mem) (Q : Int → Mem → Prop) : ∀ (n : Nat) (k a : Int), 0 ≤ k → k + n = 364 → (0 ≤ a ∧ a ≤ k) → Q (a + sg (fun j => ne_ (u 2 j) (u 47 j)) k n) (mset u 0 0 0) → EV (d + 1) o_M_differs 32 [] [0, a, k] u Q := by
  intro n
  induction n with
  | zero =>
    intro k a h0 hk ha hq
    have : a + sg (fun j => ne_ (u 2 j) (u 47 j)) k 0 = a := Int.add_zero a
    rw [this] at hq
    rw [e_M_differs_32]
    simp (disch := first | assumption | omega) only [rn, wk, al, wr_e, td_e, tm_e, mset_eq, mset_ne, if_pos, if_neg, Int.reduceAdd, Int.reduceSub, Int.reduceMul, Int.reduceNeg, Int.reduceLT, Int.reduceLE, Int.reduceEq, Int.cast_ofNat_Int, eq_self, and_true, true_and, ite_self, true_or, or_true, false_or, or_false, and_false, false_and, not_true_eq_false, not_false_eq_true, if_true, if_false, e_M_differs_0, e_M_differs_17, e_M_differs_60, e_M_differs_66, q_pass]
    exact hq
  | succ n ih =>
    intro k a h0 hk ha hq
    have e : sg (fun j => ne_ (u 2 j) (u 47 j)) k (n + 1) = ne_ (u 2 k) (u 47 k) + sg (fun j => ne_ (u 2 j) (u 47 j)) (k + 1) n := rfl
    rw [e, ← Int.add_assoc] at hq
    rw [e_M_differs_32]
    by_cases c : u 2 k = u 47 k
    · have e2 : ne_ (u 2 k) (u 47 k) = 0 := if_pos c
      rw [e2, Int.add_zero] at hq
      simp (disch := first | assumption | omega) only [rn, wk, al, wr_e, td_e, tm_e, mset_eq, mset_ne, if_pos, if_neg, Int.reduceAdd, Int.reduceSub, Int.reduceMul, Int.reduceNeg, Int.reduceLT, Int.reduceLE, Int.reduceEq, Int.cast_ofNat_Int, eq_self, and_true, true_and, ite_self, true_or, or_true, false_or, or_false, and_false, false_and, not_true_eq_false, not_false_eq_true, if_true, if_false, e_M_differs_0, e_M_differs_17, e_M_differs_60, e_M_differs_66]
      exact ih (k + 1) a (by omega) (by omega) (by omega) hq
    · have e2 : ne_ (u 2 k) (u 47 k) = 1 := if_neg c
      rw [e2] at hq
      simp (disch := first | assumption | omega) only [rn, wk, al, wr_e, td_e, tm_e, mset_eq, mset_ne, if_pos, if_neg, Int.reduceAdd, Int.reduceSub, Int.reduceMul, Int.reduceNeg, Int.reduceLT, Int.reduceLE, Int.reduceEq, Int.cast_ofNat_Int, eq_self, and_true, true_and, ite_self, true_or, or_true, false_or, or_false, and_false, false_and, not_true_eq_false, not_false_eq_true, if_true, if_false, e_M_differs_0, e_M_differs_17, e_M_differs_60, e_M_differs_66]
      exact ih (k + 1) (a + 1) (by omega) (by omega) (by omega) hq
/-- the reference's differing: how many cells the sums differ in -/
theorem q_differing (d : Nat) (A s : Mem) (h : RA A s) (hk : vKs A) (hu : ∀ x b, 0 ≤ x ∧ x < A 0 3 → 0 ≤ b ∧ b < 91 → 0 ≤ s 138 (134 + (91 * x + b)) ∧ s 138 (134 + (91 * x + b)) ≤ 999) : CV (d + 6) 318 [137] s fun r u => r = sg (fun x => sg (fun b => ne_ (sb A x b) (s 138 (134 + (91 * x + b)))) 0 91) 0 (A 0 3).toNat ∧ Ff s u := by
  have hv : VB A := ⟨h.1.1, h.1.2.2.1, h.1.2.2.2.1, h.1.2.2.2.2⟩
  have h1 := h.1.1
  unfold VC at h1
  have rc := h.2.1
  unfold RC at rc
  have hll : ∀ j, 0 ≤ j ∧ j < 364 → 0 ≤ llF s 1 j ∧ llF s 1 j ≤ 999 := by
    intro j hj
    unfold llF
    split
    · rename_i c
      have := hu (j / 91) (j % 91) (by omega) (by omega)
      rw [show 91 * (j / 91) + j % 91 = j by omega] at this
      exact this
    · omega
  apply c_R_differing
  simp (disch := first | assumption | omega) only [rn, wk, al, wr_e, td_e, tm_e, mset_eq, mset_ne, if_pos, if_neg, Int.reduceAdd, Int.reduceSub, Int.reduceMul, Int.reduceNeg, Int.reduceLT, Int.reduceLE, Int.reduceEq, Int.cast_ofNat_Int, eq_self, and_true, true_and, ite_self, true_or, or_true, false_or, or_false, and_false, false_and, not_true_eq_false, not_false_eq_true, if_true, if_false, e_R_differing_0]
  refine EV_call (CV_mono (q_laysLeft (d + 4) s 1 (Or.inr rfl) (by omega) hll) ?_)
  rintro r t ⟨t1, t2, t3⟩
  refine EV_call (CV_mono (q_putsAll d A t (RA_congr (Fl_cell t1 (by omega) (by omega)) h) t2 (-1) (Or.inr rfl) (fun j hj => by rw [t3 j hj]; have := hll j hj; omega)) ?_)
  rintro r' u ⟨u1, u2, u3, u4⟩
  have b1 := cpos_b (u 147)
  have b2 := cneg_b (u 147)
  simp (disch := first | assumption | omega) only [rn, wk, al, wr_e, td_e, tm_e, mset_eq, mset_ne, if_pos, if_neg, Int.reduceAdd, Int.reduceSub, Int.reduceMul, Int.reduceNeg, Int.reduceLT, Int.reduceLE, Int.reduceEq, Int.cast_ofNat_Int, eq_self, and_true, true_and, ite_self, true_or, or_true, false_or, or_false, and_false, false_and, not_true_eq_false, not_false_eq_true, if_true, if_false, u3.1, u3.2]
  refine ⟨?_, Ff_trans (Ff_of t1) u1⟩
  unfold cpos cneg
  rw [← sg_add]
  have e := sg_blk (fun i => p1_ (u 147 i) + n1_ (u 147 i)) 91 4
  rw [show 91 * 4 = 364 from rfl] at e
  rw [e]
  obtain ⟨n, hn⟩ : ∃ n : Nat, A 0 3 = n := ⟨(A 0 3).toNat, by omega⟩
  rw [hn, show ((n : Int)).toNat = n by omega, show (4 : Nat) = n + (4 - n) by omega, sg_plus]
  rw [sg_zero (4 - n) _ _ (fun x a b => sg_zero 91 0 _ (fun b' c d => by
    have := u4 x b' (by omega) (by omega)
    rw [if_neg (by omega), t3 _ (by omega)] at this
    unfold llF at this
    rw [if_neg (by omega)] at this
    show p1_ (u 147 (91 * x + b')) + n1_ (u 147 (91 * x + b')) = 0
    rw [this]; rfl)), Int.add_zero]
  apply sg_congr
  intro x a b
  apply sg_congr
  intro b' c d
  have q := u4 x b' (by omega) (by omega)
  rw [if_pos (by omega), t3 _ (by omega)] at q
  have e2 : llF s 1 (91 * x + b') = s 138 (134 + (91 * x + b')) := by unfold llF; rw [if_pos (by omega)]
  rw [e2] at q
  show p1_ (u 147 (91 * x + b')) + n1_ (u 147 (91 * x + b')) = _
  rw [q]
  unfold p1_ n1_ ne_
  by_cases c0 : sb A x b' = s 138 (134 + (91 * x + b'))
  · rw [if_neg (by omega), if_neg (by omega), if_pos c0]; rfl
  · rw [if_neg c0]
    by_cases c2 : 0 < s 138 (134 + (91 * x + b')) + -1 * sb A x b'
    · rw [if_pos c2, if_neg (by omega)]; rfl
    · rw [if_neg c2, if_pos (by omega)]; rfl
theorem ak_differs (d : Nat) : Ak (d + 30) 136 317 [] := by
  apply ak_of; intro s hi
  have hc := inv_c hi
  have hr := inv_rc hi
  have hv := VB_of (inv_va hi)
  have hk := vKs_of hi.2.2.2.2.1
  by_cases c1 : s 37 6 = 1
  · apply c_M_differs
    simp (disch := first | assumption | omega) only [rn, wk, al, wr_e, td_e, tm_e, mset_eq, mset_ne, if_pos, if_neg, Int.reduceAdd, Int.reduceSub, Int.reduceMul, Int.reduceNeg, Int.reduceLT, Int.reduceLE, Int.reduceEq, Int.cast_ofNat_Int, eq_self, and_true, true_and, ite_self, true_or, or_true, false_or, or_false, and_false, false_and, not_true_eq_false, not_false_eq_true, if_true, if_false, e_M_differs_0, e_M_differs_60, e_M_differs_66]
    rw [e_M_differs_17]
    simp (disch := first | assumption | omega) only [rn, wk, al, wr_e, td_e, tm_e, mset_eq, mset_ne, if_pos, if_neg, Int.reduceAdd, Int.reduceSub, Int.reduceMul, Int.reduceNeg, Int.reduceLT, Int.reduceLE, Int.reduceEq, Int.cast_ofNat_Int, eq_self, and_true, true_and, ite_self, true_or, or_true, false_or, or_false, and_false, false_and, not_true_eq_false, not_false_eq_true, if_true, if_false]
    refine EV_call (CV_mono (ws_ hi _) ?_)
    rintro r v ⟨v1, v2⟩
    refine lp_Mdiff _ v _ 364 0 0 (by omega) (by omega) (by omega) ?_
    have e138 : mset v 0 0 0 138 = s 138 := by rw [mset_nc (by omega)]; funext i; exact v1 _ _ (by omega)
    have g6 : v 138 6 = s 37 6 := by rw [v1 _ _ (by omega)]; omega
    have hru := inv_ru hi c1
    have hvu := inv_vu hi c1
    apply c_R_differs
    simp (disch := first | assumption | omega) only [rn, wk, al, wr_e, td_e, tm_e, mset_eq, mset_ne, if_pos, if_neg, Int.reduceAdd, Int.reduceSub, Int.reduceMul, Int.reduceNeg, Int.reduceLT, Int.reduceLE, Int.reduceEq, Int.cast_ofNat_Int, eq_self, and_true, true_and, ite_self, true_or, or_true, false_or, or_false, and_false, false_and, not_true_eq_false, not_false_eq_true, if_true, if_false, e_R_differs_0, e_R_differs_27, g6]
    rw [e_R_differs_19]
    simp (disch := first | assumption | omega) only [rn, wk, al, wr_e, td_e, tm_e, mset_eq, mset_ne, if_pos, if_neg, Int.reduceAdd, Int.reduceSub, Int.reduceMul, Int.reduceNeg, Int.reduceLT, Int.reduceLE, Int.reduceEq, Int.cast_ofNat_Int, eq_self, and_true, true_and, ite_self, true_or, or_true, false_or, or_false, and_false, false_and, not_true_eq_false, not_false_eq_true, if_true, if_false]
    refine EV_call (CV_mono (q_differing _ (win s 37) (mset v 0 0 0) (RA_congr e138 (RA_of hi.2.2.2.2.1)) hk ?_) ?_)
    · intro x b hx hb
      have hx' : 0 ≤ x ∧ x < s 37 3 := hx
      rw [e138, show 134 + (91 * x + b) = 134 + 91 * x + b by omega, hru x b (by omega) hb]
      exact (hvu x b (by omega) hb).1
    · rintro r' u ⟨rfl, u1⟩
      simp (disch := first | assumption | omega) only [rn, wk, al, wr_e, td_e, tm_e, mset_eq, mset_ne, if_pos, if_neg, Int.reduceAdd, Int.reduceSub, Int.reduceMul, Int.reduceNeg, Int.reduceLT, Int.reduceLE, Int.reduceEq, Int.cast_ofNat_Int, eq_self, and_true, true_and, ite_self, true_or, or_true, false_or, or_false, and_false, false_and, not_true_eq_false, not_false_eq_true, if_true, if_false, e_R_differs_0, e_R_differs_19, e_R_differs_27, q_gives]
      refine ⟨?_, inv_sums 0 hi v1 rfl u1⟩
      rw [Int.zero_add]
      have e := sg_blk (fun j => ne_ (v 2 j) (v 47 j)) 4 91
      rw [show 4 * 91 = 364 from rfl] at e
      have e2 : sg (fun j => ne_ (v 2 j) (v 47 j)) 0 364 = sg (fun x => sg (fun b => ne_ (v 2 (4 * b + x)) (v 47 (4 * b + x))) 0 91) 0 4 := by
        rw [e]; exact sg_comm 4 0 91 0
      have e3 : win s 37 0 3 = s 37 3 := rfl
      obtain ⟨n, hn⟩ : ∃ n : Nat, s 37 3 = n := ⟨(s 37 3).toNat, by omega⟩
      have e5 := sg_plus (f := fun x => sg (fun b => ne_ (v 2 (4 * b + x)) (v 47 (4 * b + x))) 0 91) (4 - n) n 0
      rw [show n + (4 - n) = 4 by omega] at e5
      rw [e2, e5, e3, hn, show ((n : Int)).toNat = n by omega]
      rw [sg_zero (4 - n) _ _ (fun x a b => sg_zero 91 0 _ (fun b' c d => by
        have q1 := v2 x b' (by omega) (by omega)
        have q2 := (hvu x b' (by omega) (by omega)).2 (by omega)
        rw [if_neg (by omega)] at q1
        have q3 : v 47 (4 * b' + x) = 0 := by rw [v1 _ _ (by omega), q2]
        rw [q1, q3]; rfl)), Int.add_zero]
      apply sg_congr
      intro x a b
      apply sg_congr
      intro b' c d
      have q1 := v2 x b' (by omega) (by omega)
      rw [if_pos (by omega)] at q1
      have q3 : v 47 (4 * b' + x) = s 47 (4 * b' + x) := v1 _ _ (by omega)
      have q4 : v 138 (134 + (91 * x + b')) = s 47 (4 * b' + x) := by
        rw [v1 _ _ (by omega), show 134 + (91 * x + b') = 134 + 91 * x + b' by omega, hru x b' (by omega) (by omega)]
      rw [q1, q3, q4]
  · apply c_M_differs
    simp (disch := first | assumption | omega) only [rn, wk, al, wr_e, td_e, tm_e, mset_eq, mset_ne, if_pos, if_neg, Int.reduceAdd, Int.reduceSub, Int.reduceMul, Int.reduceNeg, Int.reduceLT, Int.reduceLE, Int.reduceEq, Int.cast_ofNat_Int, eq_self, and_true, true_and, ite_self, true_or, or_true, false_or, or_false, and_false, false_and, not_true_eq_false, not_false_eq_true, if_true, if_false, e_M_differs_0, e_M_differs_17, e_M_differs_60, e_M_differs_66, q_fail]
    apply c_R_differs
    simp (disch := first | assumption | omega) only [rn, wk, al, wr_e, td_e, tm_e, mset_eq, mset_ne, if_pos, if_neg, Int.reduceAdd, Int.reduceSub, Int.reduceMul, Int.reduceNeg, Int.reduceLT, Int.reduceLE, Int.reduceEq, Int.cast_ofNat_Int, eq_self, and_true, true_and, ite_self, true_or, or_true, false_or, or_false, and_false, false_and, not_true_eq_false, not_false_eq_true, if_true, if_false, e_R_differs_0, e_R_differs_19, e_R_differs_27, q_refuse]
    exact inv_st 6 hi
