/-! ===== H2: what is heard ===== -/
/-- the distance from caller c to place p; what is heard there of the kind q; the beats behind -/
def dP (A : Mem) (c p : Int) : Int := A 11 (7 * A 6 c + p)
def aP (A : Mem) (q p i : Int) : Int := if dP A (q / 3) p < 10000000 then max 0 (A 8 (3 * q + i) - dP A (q / 3) p % 1000) else 0
def bP (A : Mem) (q p : Int) : Int := dP A (q / 3) p / 1000
/-- what is heard of the call v on the slate x at the beat b -/
def pt (A : Mem) (v x b : Int) : Int := if 0 ≤ b - v % 21 - bP A (v / 21) (A 5 x) ∧ b - v % 21 - bP A (v / 21) (A 5 x) < 3 then aP A (v / 21) (A 5 x) (b - v % 21 - bP A (v / 21) (A 5 x)) else 0
/-- a kind that there is; a call that may be -/
def vQ (A : Mem) (q : Int) : Prop := 0 ≤ q ∧ q < 15 ∧ q / 3 < A 0 4 ∧ q % 3 < A 7 (q / 3)
def vK (A : Mem) (v : Int) : Prop := 0 ≤ v ∧ v < 315 ∧ vQ A (v / 21)
def sb (A : Mem) (x b : Int) : Int := sg (fun k => pt A (A 9 k) x b) 0 (A 0 5).toNat
/-- what these need of a hall -/
def VB (A : Mem) : Prop := VC A ∧ VS A ∧ VL A ∧ VN A
theorem VB_of {A : Mem} (h : VA A) : VB A := ⟨h.1, h.2.2.1, h.2.2.2.1, h.2.2.2.2.2.1⟩
theorem vQ_c {A : Mem} {q : Int} (h : vQ A q) : 0 ≤ q / 3 ∧ q / 3 < A 0 4 := by unfold vQ at h; omega
theorem dP_ok {A : Mem} (hv : VB A) {c p : Int} (hc : 0 ≤ c ∧ c < A 0 4) (hp : 0 ≤ p ∧ p < A 0 1) : (0 ≤ A 6 c ∧ A 6 c < 7) ∧ (dP A c p = 10000000 ∨ ∃ x y, dP A c p = 1000 * x + y ∧ (0 ≤ x ∧ x ≤ 54) ∧ (0 ≤ y ∧ y ≤ 54)) := by
  have h1 := hv.1
  unfold VC at h1
  have h2 := hv.2.2.1 c hc
  refine ⟨by omega, ?_⟩
  unfold dP
  rcases hv.2.2.2 (A 6 c) p h2.1 hp with q | ⟨x, y, q1, q2⟩
  · exact Or.inl q.1
  · exact Or.inr ⟨x, y, q2⟩
theorem nb_ok {A : Mem} (hv : VB A) {q i : Int} (hq : vQ A q) (hi : 0 ≤ i ∧ i < 3) : 0 ≤ A 8 (3 * q + i) ∧ A 8 (3 * q + i) ≤ 99 := by
  have hc := vQ_c hq
  unfold vQ at hq
  have h2 := (hv.2.2.1 (q / 3) hc).2.2 (q % 3) i (by omega) hi
  rw [show 9 * (q / 3) + 3 * (q % 3) + i = 3 * q + i by omega] at h2
  exact h2
theorem aP_ok {A : Mem} (hv : VB A) {q p i : Int} (hq : vQ A q) (hp : 0 ≤ p ∧ p < A 0 1) (hi : 0 ≤ i ∧ i < 3) : 0 ≤ aP A q p i ∧ aP A q p i ≤ 99 := by
  have h1 := nb_ok hv hq hi
  have h2 := (dP_ok hv (vQ_c hq) hp).2
  unfold aP
  split
  · rcases h2 with q | ⟨x, y, q⟩ <;> omega
  · omega
theorem pt_ok {A : Mem} (hv : VB A) {v x b : Int} (hk : vK A v) (hx : 0 ≤ x ∧ x < A 0 3) : 0 ≤ pt A v x b ∧ pt A v x b ≤ 99 := by
  unfold pt
  split
  · rename_i c
    exact aP_ok hv hk.2.2 (hv.2.1 x hx) c
  · omega
theorem q_distanceToSlate (d : Nat) {h : Int} (hh : isH h) (c x : Int) (s : Mem) (hv : VB (win s h)) (hc : 0 ≤ c ∧ c < s h 4) (hx : 0 ≤ x ∧ x < s h 3) : sem (d + 2) 114 [h, c, x] s = some (dP (win s h) c (s (h + 5) x), s) := by
  apply CV_eq; apply c_Hall_distanceToSlate
  have h1 := hv.1
  unfold VC at h1
  simp only [win, Int.add_zero] at h1
  have h2 : (0 ≤ s (h + 6) c ∧ s (h + 6) c < s (h + 0) 1) ∧ _ := hv.2.2.1 c (by simp only [win, Int.add_zero]; exact hc)
  have h3 : 0 ≤ s (h + 5) x ∧ s (h + 5) x < s (h + 0) 1 := hv.2.1 x (by simp only [win, Int.add_zero]; exact hx)
  rw [Int.add_zero] at h2 h3
  have h2' := h2.1
  simp (disch := first | assumption | omega) only [rn, wk, al, wr_e, td_e, tm_e, mset_eq, mset_ne, if_pos, if_neg, Int.reduceAdd, Int.reduceSub, Int.reduceMul, Int.reduceNeg, Int.reduceLT, Int.reduceLE, Int.reduceEq, Int.cast_ofNat_Int, eq_self, and_true, true_and, ite_self, true_or, or_true, false_or, or_false, and_false, false_and, not_true_eq_false, not_false_eq_true, if_true, if_false, e_Hall_distanceToSlate_0, ah hh, q_distance _ hh]
  rfl
theorem q_amount (d : Nat) {h : Int} (hh : isH h) (q i l : Int) (s : Mem) (hq : 0 ≤ q ∧ q < 15) (hi : 0 ≤ i ∧ i < 3) (hn : 0 ≤ s (h + 8) (3 * q + i) ∧ s (h + 8) (3 * q + i) ≤ 99) (hl : 0 ≤ l ∧ l < 1000) : sem (d + 2) 119 [h, q, i, l] s = some (max 0 (s (h + 8) (3 * q + i) - l), s) := by
  apply CV_eq; apply c_Hall_amount
  have e : q * 3 = 3 * q := by omega
  simp (disch := first | assumption | omega) only [rn, wk, al, wr_e, td_e, tm_e, mset_eq, mset_ne, if_pos, if_neg, Int.reduceAdd, Int.reduceSub, Int.reduceMul, Int.reduceNeg, Int.reduceLT, Int.reduceLE, Int.reduceEq, Int.cast_ofNat_Int, eq_self, and_true, true_and, ite_self, true_or, or_true, false_or, or_false, and_false, false_and, not_true_eq_false, not_false_eq_true, if_true, if_false, e_Hall_amount_0, q_numberOf _ hh, e]
theorem q_amountAt (d : Nat) {h : Int} (hh : isH h) (s : Mem) (k x b : Int) (hv : VB (win s h)) (hk : 0 ≤ k ∧ k < s h 5) (hvk : vK (win s h) (s (h + 9) k)) (hx : 0 ≤ x ∧ x < s h 3) (hb : 0 ≤ b ∧ b ≤ 90) : sem (d + 3) 129 [h, k, x, b] s = some (pt (win s h) (s (h + 9) k) x b, s) := by
  apply CV_eq; apply c_Hall_amountAt
  have h1 := hv.1
  unfold VC at h1
  simp only [win, Int.add_zero] at h1
  have hq := hvk.2.2
  have hc0 := vQ_c hq
  have hc : 0 ≤ s (h + 9) k / 63 ∧ s (h + 9) k / 63 < s h 4 := by
    simp only [win, Int.add_zero] at hc0; omega
  have hv0 : 0 ≤ s (h + 9) k ∧ s (h + 9) k < 315 := ⟨hvk.1, hvk.2.1⟩
  have hp : 0 ≤ s (h + 5) x ∧ s (h + 5) x < win s h 0 1 := hv.2.1 x (by simp only [win, Int.add_zero]; exact hx)
  have hd := (dP_ok hv (c := s (h + 9) k / 63) (p := s (h + 5) x) (by simp only [win, Int.add_zero]; exact hc) hp).2
  have e3 : s (h + 9) k / 21 / 3 = s (h + 9) k / 63 := by omega
  have hd0 : 0 ≤ dP (win s h) (s (h + 9) k / 63) (s (h + 5) x) ∧ dP (win s h) (s (h + 9) k / 63) (s (h + 5) x) ≤ 10000000 := by
    rcases hd with q | ⟨u, w, q⟩ <;> omega
  have ept : pt (win s h) (s (h + 9) k) x b = if 0 ≤ b - s (h + 9) k % 21 - dP (win s h) (s (h + 9) k / 63) (s (h + 5) x) / 1000 ∧ b - s (h + 9) k % 21 - dP (win s h) (s (h + 9) k / 63) (s (h + 5) x) / 1000 < 3 then (if dP (win s h) (s (h + 9) k / 63) (s (h + 5) x) < 10000000 then max 0 (s (h + 8) (3 * (s (h + 9) k / 21) + (b - s (h + 9) k % 21 - dP (win s h) (s (h + 9) k / 63) (s (h + 5) x) / 1000)) - dP (win s h) (s (h + 9) k / 63) (s (h + 5) x) % 1000) else 0) else 0 := by
    unfold pt aP bP
    rw [e3]
    rfl
  rw [ept]
  have hcall := q_callerOf (d + 0) hh k s (by omega) hv0
  have hdist := q_distanceToSlate (d + 0) hh (s (h + 9) k / 63) x s hv hc hx
  generalize dP (win s h) (s (h + 9) k / 63) (s (h + 5) x) = D at *
  by_cases c1 : D < 10000000
  · by_cases c2 : 0 ≤ b - s (h + 9) k % 21 - D / 1000 ∧ b - s (h + 9) k % 21 - D / 1000 < 3
    · have hn : 0 ≤ s (h + 8) (3 * (s (h + 9) k / 21) + (b - s (h + 9) k % 21 - D / 1000)) ∧ s (h + 8) (3 * (s (h + 9) k / 21) + (b - s (h + 9) k % 21 - D / 1000)) ≤ 99 := nb_ok hv hq c2
      simp (disch := first | assumption | omega) only [rn, wk, al, wr_e, td_e, tm_e, mset_eq, mset_ne, if_pos, if_neg, Int.reduceAdd, Int.reduceSub, Int.reduceMul, Int.reduceNeg, Int.reduceLT, Int.reduceLE, Int.reduceEq, Int.cast_ofNat_Int, eq_self, and_true, true_and, ite_self, true_or, or_true, false_or, or_false, and_false, false_and, not_true_eq_false, not_false_eq_true, if_true, if_false, e_Hall_amountAt_0, e_Hall_amountAt_45, e_Hall_amountAt_47, hcall, hdist, q_startOf _ hh, q_beatsOf, q_kindOf _ hh, q_lossOf, q_amount _ hh]
    · simp (disch := first | assumption | omega) only [rn, wk, al, wr_e, td_e, tm_e, mset_eq, mset_ne, if_pos, if_neg, Int.reduceAdd, Int.reduceSub, Int.reduceMul, Int.reduceNeg, Int.reduceLT, Int.reduceLE, Int.reduceEq, Int.cast_ofNat_Int, eq_self, and_true, true_and, ite_self, true_or, or_true, false_or, or_false, and_false, false_and, not_true_eq_false, not_false_eq_true, if_true, if_false, e_Hall_amountAt_0, e_Hall_amountAt_45, e_Hall_amountAt_47, hcall, hdist, q_startOf _ hh, q_beatsOf]
      repeat' split
      all_goals first | trivial | omega
  · simp (disch := first | assumption | omega) only [rn, wk, al, wr_e, td_e, tm_e, mset_eq, mset_ne, if_pos, if_neg, Int.reduceAdd, Int.reduceSub, Int.reduceMul, Int.reduceNeg, Int.reduceLT, Int.reduceLE, Int.reduceEq, Int.cast_ofNat_Int, eq_self, and_true, true_and, ite_self, true_or, or_true, false_or, or_false, and_false, false_and, not_true_eq_false, not_false_eq_true, if_true, if_false, e_Hall_amountAt_0, e_Hall_amountAt_45, e_Hall_amountAt_47, hcall, hdist, q_startOf _ hh, q_beatsOf]
