/-! ===== H2: explains ===== -/
theorem sg_pick (c v : Int) : ∀ (n : Nat) (lo : Int), sg (fun j => if c = j then v else 0) lo n = if lo ≤ c ∧ c < lo + n then v else 0 := by
  intro n
  induction n with
  | zero => intro lo; rw [if_neg (by omega)]; rfl
  | succ n ih =>
    intro lo
    show (if c = lo then v else 0) + sg (fun j => if c = j then v else 0) (lo + 1) n = _
    rw [ih (lo + 1)]
    by_cases e : c = lo
    · rw [if_pos e, if_neg (by omega), if_pos (by omega)]; omega
    · rw [if_neg e]
      by_cases c2 : lo + 1 ≤ c ∧ c < lo + 1 + n
      · rw [if_pos c2, if_pos (by omega)]; omega
      · rw [if_neg c2, if_neg (by omega)]; omega
theorem sg_nn {f : Int → Int} : ∀ (n : Nat) (k : Int), (∀ i, k ≤ i → i < k + n → 0 ≤ f i) → 0 ≤ sg f k n ∧ (sg f k n = 0 → ∀ i, k ≤ i → i < k + n → f i = 0) := by
  intro n
  induction n with
  | zero => intro k h; exact ⟨Int.le_refl 0, fun _ i a b => by omega⟩
  | succ n ih =>
    intro k h
    obtain ⟨h1, h2⟩ := ih (k + 1) (fun i a b => h i (by omega) (by omega))
    have h0 := h k (by omega) (by omega)
    show 0 ≤ f k + sg f (k + 1) n ∧ (f k + sg f (k + 1) n = 0 → _)
    refine ⟨by omega, fun hz i a b => ?_⟩
    by_cases e : i = k
    · rw [e]; omega
    · exact h2 (by omega) i (by omega) (by omega)
theorem sg_sub {f g : Int → Int} : ∀ (n : Nat) (k : Int), sg (fun i => f i - g i) k n = sg f k n - sg g k n := by
  intro n
  induction n with
  | zero => intros; rfl
  | succ n ih =>
    intro k
    show f k - g k + sg (fun i => f i - g i) (k + 1) n = (f k + sg f (k + 1) n) - (g k + sg g (k + 1) n)
    rw [ih]; omega
def S27 (u : Mem) (j : Int) (m : Nat) : Int := sg (fun i => if u 27 i = j then u 28 i else 0) 0 m
theorem S27_sum (u : Mem) (m : Nat) (h : ∀ i, 0 ≤ i ∧ i < (m : Int) → 0 ≤ u 27 i ∧ u 27 i < 364) : sg (fun j => S27 u j m) 0 364 = sg (u 28) 0 m := by
  unfold S27
  rw [sg_comm]
  apply sg_congr
  intro i a b
  rw [sg_pick, if_pos (by have := h i (by omega); omega)]
def exI (s u : Mem) (m : Nat) : Prop := Fg s u ∧ u 24 5 = m ∧ (∀ i, 0 ≤ i ∧ i < (m : Int) → (0 ≤ u 27 i ∧ u 27 i < 364) ∧ (0 ≤ u 28 i ∧ u 28 i ≤ 99)) ∧ (∀ j, 0 ≤ j ∧ j < 364 → u 26 j = s 26 j - S27 u j m) ∧ u 24 4 = s 24 4 - sg (u 28) 0 m
theorem lp_gb (d : Nat) (s u : Mem) (m : Nat) (hm : m ≤ 96) (hu : exI s u m) (hs : ∀ j, 0 ≤ j ∧ j < 364 → 0 ≤ s 26 j ∧ s 26 j ≤ 1000) (hst : 0 ≤ s 24 4 ∧ s 24 4 ≤ 1000000) (Q : Int → Mem → Prop) (hQ : ∀ t, Fg s t → (∀ j, 0 ≤ j ∧ j < 364 → t 26 j = s 26 j) → t 24 4 = s 24 4 → Q 0 t) : ∀ (n : Nat) (i : Nat) (t : Mem), i + n = m → Fg s t → t 24 5 = m → (∀ i, 0 ≤ i ∧ i < (m : Int) → t 27 i = u 27 i ∧ t 28 i = u 28 i) → (∀ j, 0 ≤ j ∧ j < 364 → t 26 j = u 26 j + S27 u j i) → t 24 4 = u 24 4 + sg (u 28) 0 i → EV d o_Moves_giveBack 2 [] [24, i] t Q := by
  obtain ⟨u1, u2, u3, u4, u5⟩ := hu
  intro n
  induction n with
  | zero =>
    intro i t hi hf h5 he h26 h4
    have ei : i = m := by omega
    subst ei
    have hq := hQ t hf (fun j hj => by rw [h26 j hj, u4 j hj]; omega) (by rw [h4, u5]; omega)
    rw [e_Moves_giveBack_2]
    simp (disch := first | assumption | omega) only [rn, wk, al, wr_e, td_e, tm_e, mset_eq, mset_ne, if_pos, if_neg, Int.reduceAdd, Int.reduceSub, Int.reduceMul, Int.reduceNeg, Int.reduceLT, Int.reduceLE, Int.reduceEq, Int.cast_ofNat_Int, eq_self, and_true, true_and, ite_self, true_or, or_true, false_or, or_false, and_false, false_and, not_true_eq_false, not_false_eq_true, if_true, if_false, e_Moves_giveBack_0, e_Moves_giveBack_51, h5]
    exact hq
  | succ n ih =>
    intro i t hi hf h5 he h26 h4
    obtain ⟨e1, e2⟩ := he i (by omega)
    obtain ⟨k1, k2⟩ := u3 i (by omega)
    have hb := sg_bd (f := u 28) (m := 99) m 0 (fun i a b => (u3 i (by omega)).2)
    have hb2 := sg_bd (f := u 28) (m := 99) i 0 (fun i a b => (u3 i (by omega)).2)
    have c26 := h26 (u 27 i) k1
    have hS : 0 ≤ S27 u (u 27 i) i ∧ S27 u (u 27 i) i ≤ 99 * (i : Int) := sg_bd (m := 99) i 0 (fun j a b => by
      have := (u3 j (by omega)).2
      show 0 ≤ (if u 27 j = u 27 i then u 28 j else 0) ∧ (if u 27 j = u 27 i then u 28 j else 0) ≤ 99
      split <;> omega)
    have hSm : 0 ≤ S27 u (u 27 i) m ∧ S27 u (u 27 i) m ≤ 99 * (m : Int) := sg_bd (m := 99) m 0 (fun j a b => by
      have := (u3 j (by omega)).2
      show 0 ≤ (if u 27 j = u 27 i then u 28 j else 0) ∧ (if u 27 j = u 27 i then u 28 j else 0) ≤ 99
      split <;> omega)
    have q4 := u4 (u 27 i) k1
    have hs1 := hs (u 27 i) k1
    rw [e_Moves_giveBack_2]
    simp (disch := first | assumption | omega) only [rn, wk, al, wr_e, td_e, tm_e, mset_eq, mset_ne, if_pos, if_neg, Int.reduceAdd, Int.reduceSub, Int.reduceMul, Int.reduceNeg, Int.reduceLT, Int.reduceLE, Int.reduceEq, Int.cast_ofNat_Int, eq_self, and_true, true_and, ite_self, true_or, or_true, false_or, or_false, and_false, false_and, not_true_eq_false, not_false_eq_true, if_true, if_false, h5, e1, e2]
    have hx := ih (i + 1) (mset (mset t 26 (u 27 i) (t 26 (u 27 i) + u 28 i)) 24 4 (t 24 4 + u 28 i)) (by omega) ?_ ?_ ?_ ?_ ?_
    · rw [show ((i + 1 : Nat) : Int) = (i : Int) + 1 by omega] at hx
      exact hx
    · intro c j y1 y2 y3 y4
      rw [mset_ne (by omega), mset_ne (by omega)]; exact hf c j y1 y2 y3 y4
    · rw [mset_ne (by omega), mset_ne (by omega)]; exact h5
    · intro j hj
      rw [mset_ne (by omega), mset_ne (by omega), mset_ne (by omega), mset_ne (by omega)]; exact he j hj
    · intro j hj
      have es : S27 u j (i + 1) = S27 u j i + if u 27 i = j then u 28 i else 0 := by
        unfold S27; rw [sg_last, Int.zero_add]
      rw [es, mset_ne (by omega)]
      by_cases e : j = u 27 i
      · rw [e, mset_eq rfl rfl, if_pos rfl, c26]; omega
      · rw [mset_ne (by omega), if_neg (fun h => e h.symm), h26 j hj]; omega
    · rw [mset_eq rfl rfl, sg_last, Int.zero_add, h4]; omega
theorem q_giveBack (d : Nat) (s u : Mem) (m : Nat) (hm : m ≤ 96) (hu : exI s u m) (hs : ∀ j, 0 ≤ j ∧ j < 364 → 0 ≤ s 26 j ∧ s 26 j ≤ 1000) (hst : 0 ≤ s 24 4 ∧ s 24 4 ≤ 1000000) : CV (d + 1) 167 [24] u fun _ t => Fg s t ∧ (∀ j, 0 ≤ j ∧ j < 364 → t 26 j = s 26 j) ∧ t 24 4 = s 24 4 := by
  apply c_Moves_giveBack
  simp (disch := first | assumption | omega) only [rn, wk, al, wr_e, td_e, tm_e, mset_eq, mset_ne, if_pos, if_neg, Int.reduceAdd, Int.reduceSub, Int.reduceMul, Int.reduceNeg, Int.reduceLT, Int.reduceLE, Int.reduceEq, Int.cast_ofNat_Int, eq_self, and_true, true_and, ite_self, true_or, or_true, false_or, or_false, and_false, false_and, not_true_eq_false, not_false_eq_true, if_true, if_false, e_Moves_giveBack_0, e_Moves_giveBack_51]
  refine lp_gb d s u m hm hu hs hst _ (fun t a b c => ⟨a, b, c⟩) m 0 u (by omega) hu.1 hu.2.1 (fun _ _ => ⟨rfl, rfl⟩) (fun j hj => ?_) ?_
  · show u 26 j = u 26 j + 0; omega
  · show u 24 4 = u 24 4 + 0; omega
theorem ptd_b {A : Mem} (hv : VB A) (hk : vKs A) {k D b : Int} (hk1 : 0 ≤ k ∧ k < A 0 5) (hD : 0 ≤ D) : 0 ≤ ptd A D (A 9 k) b ∧ ptd A D (A 9 k) b ≤ 99 := by
  unfold ptd
  split
  · rename_i c
    have := nb_ok hv (hk k hk1).2.2 c.2
    omega
  · omega
/-- what is processed: the calls ahead of k, and of k the slates ahead of y -/
def prc (A : Mem) (f : Int → Int → Int) (k : Nat) (y x b : Int) : Int := (if x < A 0 3 then sg (fun k => ptd A (f k x) (A 9 k) b) 0 k else 0) + if x < y then ptd A (f k x) (A 9 k) b else 0
def exJ (A s u : Mem) (f : Int → Int → Int) (k : Nat) (y : Int) (m : Nat) : Prop := exI s u m ∧ (m : Int) ≤ 3 * (4 * k + y) ∧ (∀ x b, 0 ≤ x ∧ x < 4 → 0 ≤ b ∧ b < 91 → u 26 (4 * b + x) = s 26 (4 * b + x) - prc A f k y x b) ∧ ∀ j, 0 ≤ j ∧ j < 364 → 0 ≤ u 26 j
/-- what the class's search has: distances of pairs, what is recorded, the hall -/
def exS (A s : Mem) (f : Int → Int → Int) (W : Int) : Prop := VB A ∧ vKs A ∧ (∀ k, 0 ≤ k → k < 20 → win s 37 k = A k) ∧ (∀ k x, 0 ≤ k ∧ k < A 0 5 → 0 ≤ x ∧ x < A 0 3 → (0 ≤ s 29 (4 * k + x) ∧ s 29 (4 * k + x) ≤ 10000000) ∧ (0 ≤ s 30 (4 * k + x) ∧ s 30 (4 * k + x) ≤ 20000000) ∧ min (s 29 (4 * k + x)) (s 30 (4 * k + x) + W) = f k x ∧ okD (f k x)) ∧ (∀ j, 0 ≤ j ∧ j < 364 → s 26 j = A 10 j ∧ 0 ≤ s 26 j ∧ s 26 j ≤ 999) ∧ s 24 4 = sg (s 26) 0 364 ∧ (0 ≤ W ∧ W ≤ 10000000)
theorem prc_step (A : Mem) (f : Int → Int → Int) (k : Nat) (y x b : Int) : prc A f k (y + 1) x b = prc A f k y x b + if x = y then ptd A (f k y) (A 9 k) b else 0 := by
  unfold prc
  by_cases e : x = y
  · subst e
    rw [if_pos (show x < x + 1 by omega), if_neg (show ¬ x < x by omega), if_pos rfl]; omega
  · rw [if_neg e]
    by_cases c : x < y
    · rw [if_pos c, if_pos (show x < y + 1 by omega)]; omega
    · rw [if_neg c, if_neg (show ¬ x < y + 1 by omega)]; omega
theorem prc_le {A s : Mem} {f : Int → Int → Int} {W : Int} (hS : exS A s f W) {k : Nat} {y x b : Int} (hk : (k : Int) < A 0 5) (hy : 0 ≤ y ∧ y ≤ A 0 3) (hx : 0 ≤ x ∧ x < 4) : prc A f k y x b ≤ (if x < A 0 3 then sg (fun k => ptd A (f k x) (A 9 k) b) 0 (A 0 5).toNat else 0) ∧ 0 ≤ prc A f k y x b ∧ prc A f k y x b ≤ 900 := by
  obtain ⟨hv, hk', -, hf, -⟩ := hS
  have h1 := hv.1
  unfold VC at h1
  unfold prc
  by_cases c : x < A 0 3
  · have hb : ∀ k', 0 ≤ k' ∧ k' < A 0 5 → 0 ≤ ptd A (f k' x) (A 9 k') b ∧ ptd A (f k' x) (A 9 k') b ≤ 99 := fun k' hk1 => ptd_b hv hk' hk1 (by
      have := (hf k' x hk1 ⟨hx.1, c⟩).2.2.2
      rcases this with q | ⟨a, b, q⟩ <;> omega)
    obtain ⟨r, hr⟩ : ∃ r : Nat, (A 0 5).toNat = k + (1 + r) := ⟨(A 0 5).toNat - k - 1, by omega⟩
    have e := sg_plus (f := fun k => ptd A (f k x) (A 9 k) b) (1 + r) k 0
    have e2 := sg_plus (f := fun k => ptd A (f k x) (A 9 k) b) r 1 (0 + (k : Int))
    have e3 : sg (fun k => ptd A (f k x) (A 9 k) b) (0 + (k : Int)) 1 = ptd A (f k x) (A 9 k) b := by
      show ptd A (f (0 + (k : Int)) x) (A 9 (0 + (k : Int))) b + 0 = _
      rw [Int.zero_add, Int.add_zero]
    have n1 := sg_bd (f := fun k => ptd A (f k x) (A 9 k) b) (m := 99) r (0 + (k : Int) + ((1 : Nat) : Int)) (fun i a c => hb i (by omega))
    have n2 := sg_bd (f := fun k => ptd A (f k x) (A 9 k) b) (m := 99) k 0 (fun i a c => hb i (by omega))
    have n3 := hb k (by omega)
    rw [if_pos c, if_pos c, hr, e, e2, e3]
    split <;> omega
  · rw [if_neg c, if_neg c, if_neg (by omega)]; omega
theorem dead_ {A s : Mem} {f : Int → Int → Int} {W : Int} (hS : exS A s f W) {k : Nat} {y x b : Int} (hk : (k : Int) < A 0 5) (hy : 0 ≤ y ∧ y ≤ A 0 3) (hx : 0 ≤ x ∧ x < 4) (hb : 0 ≤ b ∧ b < 91) (h : s 26 (4 * b + x) - prc A f k y x b < 0) : ¬ Ex A f := by
  intro hE
  have e := hE x b hx hb
  have := (prc_le hS (b := b) hk hy hx).1
  have g := (hS.2.2.2.2.1 (4 * b + x) (by omega)).1
  omega
theorem lp_ex2 (d : Nat) (A s : Mem) (f : Int → Int → Int) (W : Int) (hS : exS A s f W) (k : Nat) (hk : (k : Int) < A 0 5) (Q : Int → Mem → Prop) (hL : ∀ u m z1 z2 z3, exJ A s u f k (A 0 3) m → EV (d + 3) o_Moves_explains 102 [] [24, 37, W, 1, k, z1, z2, z3] u Q) (hD : ∀ u m z1 z2 z3, exI s u m → m ≤ 96 → ¬ Ex A f → EV (d + 3) o_Moves_explains 102 [] [24, 37, W, 0, k, z1, z2, z3] u Q) : ∀ (n : Nat) (y : Int) (u : Mem) (m : Nat) (z2 z3 : Int), 0 ≤ y → y + n = A 0 3 → exJ A s u f k y m → EV (d + 3) o_Moves_explains 26 [] [24, 37, W, 1, k, y, z2, z3] u Q := by
  have hS' := hS
  obtain ⟨hv, hks, hA, hf, hr, hlt, hW⟩ := hS'
  have h1 := hv.1
  unfold VC at h1
  intro n
  induction n with
  | zero =>
    intro y u m z2 z3 h0 hy hJ
    have ey : y = A 0 3 := by omega
    have g3 : u 37 3 = A 0 3 := by rw [hJ.1.1 _ _ (by omega) (by omega) (by omega) (by omega), ← hA 0 (by omega) (by omega)]; rfl
    rw [ey] at hJ
    have hq := hL u m (A 0 3) z2 z3 hJ
    rw [e_Moves_explains_26]
    simp (disch := first | assumption | omega) only [rn, wk, al, wr_e, td_e, tm_e, mset_eq, mset_ne, if_pos, if_neg, Int.reduceAdd, Int.reduceSub, Int.reduceMul, Int.reduceNeg, Int.reduceLT, Int.reduceLE, Int.reduceEq, Int.cast_ofNat_Int, eq_self, and_true, true_and, ite_self, true_or, or_true, false_or, or_false, and_false, false_and, not_true_eq_false, not_false_eq_true, if_true, if_false, g3]
    rw [ey]; exact hq
  | succ n ih =>
    intro y u m z2 z3 h0 hy hJ
    obtain ⟨hI, hm, h26, hnn⟩ := hJ
    have g3 : u 37 3 = A 0 3 := by rw [hI.1 _ _ (by omega) (by omega) (by omega) (by omega), ← hA 0 (by omega) (by omega)]; rfl
    obtain ⟨f1, f2, f3, f4⟩ := hf k y ⟨by omega, hk⟩ (by omega)
    have g29 : u 29 (4 * (k : Int) + y) = s 29 (4 * k + y) := hI.1 _ _ (by omega) (by omega) (by omega) (by omega)
    have g30 : u 30 (4 * (k : Int) + y) = s 30 (4 * k + y) := hI.1 _ _ (by omega) (by omega) (by omega) (by omega)
    have e4 : (k : Int) * 4 = 4 * k := by omega
    rw [e_Moves_explains_26]
    by_cases c : 10000000 ≤ f k y
    · have hz : ∀ b, ptd A (f k y) (A 9 k) b = 0 := fun b => by unfold ptd; rw [if_neg (by omega)]
      have hp : ∀ x b, prc A f k (y + 1) x b = prc A f k y x b := by
        intro x b
        rw [prc_step, hz]
        split <;> omega
      simp (disch := first | assumption | omega) only [rn, wk, al, wr_e, td_e, tm_e, mset_eq, mset_ne, if_pos, if_neg, Int.reduceAdd, Int.reduceSub, Int.reduceMul, Int.reduceNeg, Int.reduceLT, Int.reduceLE, Int.reduceEq, Int.cast_ofNat_Int, eq_self, and_true, true_and, ite_self, true_or, or_true, false_or, or_false, and_false, false_and, not_true_eq_false, not_false_eq_true, if_true, if_false, e_Moves_explains_0, e_Moves_explains_90, e_Moves_explains_94, e_Moves_explains_95, e_Moves_explains_123, e_Moves_explains_124, g3, e4, g29, g30, f3]
      exact ih (y + 1) u m _ _ (by omega) (by omega) ⟨hI, by omega, fun x b hx hb => by rw [hp]; exact h26 x b hx hb, hnn⟩
    · obtain ⟨a, b0, hab, ha, hb0⟩ : ∃ a b, f k y = 1000 * a + b ∧ (0 ≤ a ∧ a ≤ 54) ∧ (0 ≤ b ∧ b ≤ 54) := by
        rcases f4 with q | q
        · exact absurd q c
        · exact q
      have hAu : ∀ k, 0 ≤ k → k < 20 → win u 37 k = A k := fun k' a b => by
        rw [← hA k' a b]; funext i; exact hI.1 _ _ (by omega) (by omega) (by omega) (by omega)
      have hsb := sg_bd (f := u 28) (m := 99) m 0 (fun i a b => (hI.2.2.1 i (by omega)).2)
      have hss := sg_bd (f := s 26) (m := 999) 364 0 (fun i a b => (hr i (by omega)).2)
      have h24 := hI.2.2.2.2
      have h245 := hI.2.1
      simp (disch := first | assumption | omega) only [rn, wk, al, wr_e, td_e, tm_e, mset_eq, mset_ne, if_pos, if_neg, Int.reduceAdd, Int.reduceSub, Int.reduceMul, Int.reduceNeg, Int.reduceLT, Int.reduceLE, Int.reduceEq, Int.cast_ofNat_Int, eq_self, and_true, true_and, ite_self, true_or, or_true, false_or, or_false, and_false, false_and, not_true_eq_false, not_false_eq_true, if_true, if_false, e_Moves_explains_0, e_Moves_explains_123, e_Moves_explains_124, g3, e4, g29, g30, f3]
      refine EV_call (CV_mono (q_takes d A u hv hks hAu k y (f k y) a b0 ⟨by omega, hk⟩ (by omega) hab ha hb0 (by omega) ?_ (by omega)) ?_)
      · intro j hj
        have q := h26 (j % 4) (j / 4) (by omega) (by omega)
        rw [show 4 * (j / 4) + j % 4 = j by omega] at q
        have := hnn j hj
        have := (prc_le hS (b := j / 4) hk (y := y) (by omega) (x := j % 4) (by omega)).2
        have := hr j hj
        omega
      · intro r t ht
        have hvk := hks k ⟨by omega, hk⟩
        have hS20 : 0 ≤ A 9 k % 21 ∧ A 9 k % 21 ≤ 20 := by have := hvk.1; omega
        obtain ⟨bg, hbg⟩ : ∃ bg, bg = A 9 k % 21 + a := ⟨_, rfl⟩
        obtain ⟨g, hg⟩ : ∃ g : Int → Int, g = fun i => max 0 (A 8 (3 * (A 9 k / 21) + i) - b0) := ⟨_, rfl⟩
        have hgb : ∀ i, 0 ≤ i ∧ i < 3 → 0 ≤ g i ∧ g i ≤ 99 := by
          intro i hi
          have := nb_ok hv hvk.2.2 hi
          rw [hg]
          show 0 ≤ max 0 (A 8 (3 * (A 9 k / 21) + i) - b0) ∧ max 0 (A 8 (3 * (A 9 k / 21) + i) - b0) ≤ 99
          omega
        have epd : ∀ b, ptd A (f k y) (A 9 k) b = if bg ≤ b ∧ b < bg + 3 then g (b - bg) else 0 := by
          intro b
          unfold ptd
          have e1 : f k y / 1000 = a := by omega
          have e2 : f k y % 1000 = b0 := by omega
          rw [e1, e2, hg]
          by_cases c2 : bg ≤ b ∧ b < bg + 3
          · rw [if_pos c2, if_pos (show f k y < 10000000 ∧ 0 ≤ b - A 9 k % 21 - a ∧ b - A 9 k % 21 - a < 3 by omega), show b - A 9 k % 21 - a = b - bg by omega]
          · rw [if_neg c2, if_neg (show ¬ (f k y < 10000000 ∧ 0 ≤ b - A 9 k % 21 - a ∧ b - A 9 k % 21 - a < 3) by omega)]
        rw [← hg, ← hbg] at ht
        clear hg
        obtain ⟨t1, t2, t3, t4, t5, t6, t7⟩ := ht
        have hp : ∀ x b, 0 ≤ x ∧ x < 4 → 0 ≤ b ∧ b < 91 → t 26 (4 * b + x) = s 26 (4 * b + x) - prc A f k (y + 1) x b := by
          intro x b hx hb
          have key : (if x = y ∧ bg ≤ b ∧ b < bg + 3 then g (b - bg) else 0) = if x = y then ptd A (f k y) (A 9 k) b else 0 := by
            by_cases e : x = y
            · rw [if_pos e, epd]
              by_cases c2 : bg ≤ b ∧ b < bg + 3
              · rw [if_pos (show x = y ∧ bg ≤ b ∧ b < bg + 3 from ⟨e, c2⟩), if_pos c2]
              · rw [if_neg (show ¬ (x = y ∧ bg ≤ b ∧ b < bg + 3) from fun h => c2 h.2), if_neg c2]
            · rw [if_neg (show ¬ (x = y ∧ bg ≤ b ∧ b < bg + 3) from fun h => e h.1), if_neg e]
          rw [t5 x b hx, h26 x b hx hb, prc_step, key]; omega
        have hI2 : exI s t (m + 3) := by
          have em : u 24 5 = (m : Int) := hI.2.1
          rw [em] at t2 t3 t4
          have q0 := t4 0 (by omega)
          have q1 := t4 1 (by omega)
          have q2 := t4 2 (by omega)
          rw [Int.add_zero, Int.add_zero] at q0
          have ee : ∀ F : Int → Int, ∀ k, sg F k 3 = F k + (F (k + 1) + (F (k + 2) + 0)) := fun F k => by
            show F k + (F (k + 1) + (F (k + 1 + 1) + 0)) = _
            rw [show k + 1 + 1 = k + 2 by omega]
          refine ⟨fun c i y1 y2 y3 y4 => by rw [t1 c i y1 y2 y3 y4, hI.1 c i y1 y2 y3 y4], by omega, ?_, ?_, ?_⟩
          · intro i hi
            by_cases ci : i < (m : Int)
            · rw [(t3 i ci).1, (t3 i ci).2]; exact hI.2.2.1 i ⟨hi.1, ci⟩
            · have q := t4 (i - m) (by omega)
              have := hgb (i - m) (by omega)
              rw [show (m : Int) + (i - m) = i by omega] at q
              rw [q.1, q.2]
              exact ⟨by omega, this⟩
          · intro j hj
            have es : S27 t j (m + 3) = S27 u j m + (if j % 4 = y ∧ bg ≤ j / 4 ∧ j / 4 < bg + 3 then g (j / 4 - bg) else 0) := by
              unfold S27
              have p1 : sg (fun i => if t 27 i = j then t 28 i else 0) 0 m = sg (fun i => if u 27 i = j then u 28 i else 0) 0 m := sg_congr m 0 (fun i a b => by rw [(t3 i (by omega)).1, (t3 i (by omega)).2])
              rw [sg_plus, p1, ee, Int.zero_add, q0.1, q0.2, q1.1, q1.2, q2.1, q2.2]
              by_cases x0 : 4 * bg + y = j
              · rw [if_pos x0, if_neg (show ¬ 4 * (bg + 1) + y = j by omega), if_neg (show ¬ 4 * (bg + 2) + y = j by omega), if_pos (show j % 4 = y ∧ bg ≤ j / 4 ∧ j / 4 < bg + 3 by omega), show j / 4 - bg = 0 by omega]; omega
              · by_cases x1 : 4 * (bg + 1) + y = j
                · rw [if_neg x0, if_pos x1, if_neg (show ¬ 4 * (bg + 2) + y = j by omega), if_pos (show j % 4 = y ∧ bg ≤ j / 4 ∧ j / 4 < bg + 3 by omega), show j / 4 - bg = 1 by omega]; omega
                · by_cases x2 : 4 * (bg + 2) + y = j
                  · rw [if_neg x0, if_neg x1, if_pos x2, if_pos (show j % 4 = y ∧ bg ≤ j / 4 ∧ j / 4 < bg + 3 by omega), show j / 4 - bg = 2 by omega]; omega
                  · rw [if_neg x0, if_neg x1, if_neg x2, if_neg (show ¬ (j % 4 = y ∧ bg ≤ j / 4 ∧ j / 4 < bg + 3) by omega)]; omega
            have q := t5 (j % 4) (j / 4) (by omega)
            rw [show 4 * (j / 4) + j % 4 = j by omega] at q
            rw [q, hI.2.2.2.1 j hj, es]; omega
          · rw [t6, hI.2.2.2.2, sg_plus]
            have p1 : sg (t 28) 0 m = sg (u 28) 0 m := sg_congr m 0 (fun i a b => (t3 i (by omega)).2)
            rw [p1, ee, Int.zero_add, q0.2, q1.2, q2.2, show (3 : Int).toNat = 3 from rfl, ee, Int.zero_add, Int.zero_add]; omega
        rcases t7 with ⟨rfl, t8⟩ | ⟨rfl, j, hj, t8⟩
        · simp (disch := first | assumption | omega) only [rn, wk, al, wr_e, td_e, tm_e, mset_eq, mset_ne, if_pos, if_neg, Int.reduceAdd, Int.reduceSub, Int.reduceMul, Int.reduceNeg, Int.reduceLT, Int.reduceLE, Int.reduceEq, Int.cast_ofNat_Int, eq_self, and_true, true_and, ite_self, true_or, or_true, false_or, or_false, and_false, false_and, not_true_eq_false, not_false_eq_true, if_true, if_false, e_Moves_explains_0, e_Moves_explains_90, e_Moves_explains_94, e_Moves_explains_95, e_Moves_explains_123, e_Moves_explains_124]
          refine ih (y + 1) t (m + 3) _ _ (by omega) (by omega) ⟨hI2, by omega, hp, fun j hj => ?_⟩
          have q := t5 (j % 4) (j / 4) (by omega)
          rw [show 4 * (j / 4) + j % 4 = j by omega] at q
          by_cases c2 : j % 4 = y ∧ bg ≤ j / 4 ∧ j / 4 < bg + 3
          · have := t8 (j / 4 - bg) (by omega)
            rw [show 4 * (bg + (j / 4 - bg)) + y = j by omega] at this
            exact this
          · rw [if_neg c2] at q
            have := hnn j hj
            omega
        · have hdead : ¬ Ex A f := by
            refine dead_ hS (k := k) (y := y + 1) (x := j % 4) (b := j / 4) hk (by omega) (by omega) (by omega) ?_
            rw [← hp _ _ (by omega) (by omega), show 4 * (j / 4) + j % 4 = j by omega]; exact t8
          have hq := hD t (m + 3) (y + 1) (4 * (k : Int) + y) (f k y) hI2 (by omega) hdead
          simp (disch := first | assumption | omega) only [rn, wk, al, wr_e, td_e, tm_e, mset_eq, mset_ne, if_pos, if_neg, Int.reduceAdd, Int.reduceSub, Int.reduceMul, Int.reduceNeg, Int.reduceLT, Int.reduceLE, Int.reduceEq, Int.cast_ofNat_Int, eq_self, and_true, true_and, ite_self, true_or, or_true, false_or, or_false, and_false, false_and, not_true_eq_false, not_false_eq_true, if_true, if_false, e_Moves_explains_0, e_Moves_explains_90, e_Moves_explains_94, e_Moves_explains_95, e_Moves_explains_123, e_Moves_explains_124]
          rw [e_Moves_explains_26]
          simp (disch := first | assumption | omega) only [rn, wk, al, wr_e, td_e, tm_e, mset_eq, mset_ne, if_pos, if_neg, Int.reduceAdd, Int.reduceSub, Int.reduceMul, Int.reduceNeg, Int.reduceLT, Int.reduceLE, Int.reduceEq, Int.cast_ofNat_Int, eq_self, and_true, true_and, ite_self, true_or, or_true, false_or, or_false, and_false, false_and, not_true_eq_false, not_false_eq_true, if_true, if_false]
          exact hq
