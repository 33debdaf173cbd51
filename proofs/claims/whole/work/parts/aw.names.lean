/-! ===== H2: names ===== -/
def ix (f : Int → Int) (nm b : Int) : Nat → Int → Int
  | 0, _ => -1
  | k + 1, j => if f (b + j) = nm then j else ix f nm b k (j + 1)
def ixa (f : Int → Int) (nm b m : Int) : Int := ix f nm b m.toNat 0
theorem ix_b (f : Int → Int) (nm b : Int) : ∀ (k : Nat) (j : Int), 0 ≤ j → ix f nm b k j = -1 ∨ (j ≤ ix f nm b k j ∧ ix f nm b k j < j + k) := by
  intro k
  induction k with
  | zero => intro j _; left; rfl
  | succ k ih =>
    intro j hj
    by_cases c : f (b + j) = nm
    · right
      have e : ix f nm b (k + 1) j = j := by show (if f (b + j) = nm then j else ix f nm b k (j + 1)) = j; rw [if_pos c]
      rw [e]; omega
    · have e : ix f nm b (k + 1) j = ix f nm b k (j + 1) := by show (if f (b + j) = nm then j else ix f nm b k (j + 1)) = _; rw [if_neg c]
      rw [e]
      rcases ih (j + 1) (by omega) with h | h
      · left; exact h
      · right; omega
theorem ixa_b (f : Int → Int) (nm b : Int) {m : Int} (hm : 0 ≤ m) : ixa f nm b m = -1 ∨ (0 ≤ ixa f nm b m ∧ ixa f nm b m < m) := by
  rcases ix_b f nm b m.toNat 0 (by omega) with h | h
  · left; exact h
  · right; unfold ixa; omega
theorem ix_congr {f g : Int → Int} {nm b c : Int} : ∀ (k : Nat) (j : Int), 0 ≤ j → (∀ i, j ≤ i → i < j + k → f (b + i) = g (c + i)) → ix f nm b k j = ix g nm c k j := by
  intro k
  induction k with
  | zero => intro j _ _; rfl
  | succ k ih =>
    intro j hj h
    show (if f (b + j) = nm then j else ix f nm b k (j + 1)) = (if g (c + j) = nm then j else ix g nm c k (j + 1))
    rw [ih (j + 1) (by omega) (fun i a b => h i (by omega) (by omega)), h j (by omega) (by omega)]
theorem ixa_congr {f g : Int → Int} {nm b c m : Int} (hm : 0 ≤ m) (h : ∀ i, 0 ≤ i → i < m → f (b + i) = g (c + i)) : ixa f nm b m = ixa g nm c m := ix_congr m.toNat 0 (by omega) (fun i a b => h i a (by omega))
theorem lp_ix (d : Nat) {h : Int} (hh : isH h) (s : Mem) (nm b m : Int) (hb : 0 ≤ b) (hm : 0 ≤ m) (hbm : b + m ≤ 16) (z2 : Int) : ∀ (k : Nat) (j : Int), 0 ≤ j → j + k = m → EV d o_Hall_indexOf 3 [] [h, nm, z2, b, m, j] s (fun r t => r = ix (s (h + 1)) nm b k j ∧ t = s) := by
  intro k
  induction k with
  | zero =>
    intro j h0 hj
    have e : ix (s (h + 1)) nm b 0 j = -1 := rfl
    rw [e, e_Hall_indexOf_3]
    simp (disch := first | assumption | omega) only [rn, wk, al, wr_e, td_e, tm_e, mset_eq, mset_ne, if_pos, if_neg, Int.reduceAdd, Int.reduceSub, Int.reduceMul, Int.reduceNeg, Int.reduceLT, Int.reduceLE, Int.reduceEq, Int.cast_ofNat_Int, eq_self, and_true, true_and, ite_self, true_or, or_true, false_or, or_false, and_false, false_and, not_true_eq_false, not_false_eq_true, if_true, if_false, e_Hall_indexOf_0, e_Hall_indexOf_27, e_Hall_indexOf_33]
  | succ k ih =>
    intro j h0 hj
    have hx := ih (j + 1) (by omega) (by omega)
    have e : ix (s (h + 1)) nm b (k + 1) j = if s (h + 1) (b + j) = nm then j else ix (s (h + 1)) nm b k (j + 1) := rfl
    rw [e, e_Hall_indexOf_3]
    by_cases c : s (h + 1) (b + j) = nm
    · rw [if_pos c]
      simp (disch := first | assumption | omega) only [rn, wk, al, wr_e, td_e, tm_e, mset_eq, mset_ne, if_pos, if_neg, Int.reduceAdd, Int.reduceSub, Int.reduceMul, Int.reduceNeg, Int.reduceLT, Int.reduceLE, Int.reduceEq, Int.cast_ofNat_Int, eq_self, and_true, true_and, ite_self, true_or, or_true, false_or, or_false, and_false, false_and, not_true_eq_false, not_false_eq_true, if_true, if_false, e_Hall_indexOf_0, e_Hall_indexOf_27, e_Hall_indexOf_33, ah hh, lcmp_eq, c]
    · rw [if_neg c]
      simp (disch := first | assumption | omega) only [rn, wk, al, wr_e, td_e, tm_e, mset_eq, mset_ne, if_pos, if_neg, Int.reduceAdd, Int.reduceSub, Int.reduceMul, Int.reduceNeg, Int.reduceLT, Int.reduceLE, Int.reduceEq, Int.cast_ofNat_Int, eq_self, and_true, true_and, ite_self, true_or, or_true, false_or, or_false, and_false, false_and, not_true_eq_false, not_false_eq_true, if_true, if_false, e_Hall_indexOf_0, e_Hall_indexOf_27, e_Hall_indexOf_33, ah hh, lcmp_eq, c]
      exact hx
theorem q_indexOf (d : Nat) {h : Int} (hh : isH h) (s : Mem) (nm b m : Int) (hb : 0 ≤ b) (hm : 0 ≤ m) (hbm : b + m ≤ 16) : sem (d + 1) 47 [h, nm, b, m] s = some (ixa (s (h + 1)) nm b m, s) := by
  apply CV_eq; apply c_Hall_indexOf
  have hx := lp_ix d hh s nm b m hb hm hbm 0 m.toNat 0 (by omega) (by omega)
  simp (disch := first | assumption | omega) only [rn, wk, al, wr_e, td_e, tm_e, mset_eq, mset_ne, if_pos, if_neg, Int.reduceAdd, Int.reduceSub, Int.reduceMul, Int.reduceNeg, Int.reduceLT, Int.reduceLE, Int.reduceEq, Int.cast_ofNat_Int, eq_self, and_true, true_and, ite_self, true_or, or_true, false_or, or_false, and_false, false_and, not_true_eq_false, not_false_eq_true, if_true, if_false, e_Hall_indexOf_0, e_Hall_indexOf_27, e_Hall_indexOf_33]
  exact hx
theorem q_placeNamed (d : Nat) {h : Int} (hh : isH h) (s : Mem) (nm : Int) (h1 : 0 ≤ s h 1 ∧ s h 1 ≤ 7) : sem (d + 2) 46 [h, nm] s = some (ixa (s (h + 1)) nm 0 (s h 1), s) := by
  have q := q_indexOf d hh s nm 0 (s h 1) (by omega) (by omega) (by omega)
  apply CV_eq; apply c_Hall_placeNamed
  simp (disch := first | assumption | omega) only [rn, wk, al, wr_e, td_e, tm_e, mset_eq, mset_ne, if_pos, if_neg, Int.reduceAdd, Int.reduceSub, Int.reduceMul, Int.reduceNeg, Int.reduceLT, Int.reduceLE, Int.reduceEq, Int.cast_ofNat_Int, eq_self, and_true, true_and, ite_self, true_or, or_true, false_or, or_false, and_false, false_and, not_true_eq_false, not_false_eq_true, if_true, if_false, e_Hall_placeNamed_0, q]
theorem q_slateNamed (d : Nat) {h : Int} (hh : isH h) (s : Mem) (nm : Int) (h1 : 0 ≤ s h 3 ∧ s h 3 ≤ 4) : sem (d + 2) 48 [h, nm] s = some (ixa (s (h + 1)) nm 7 (s h 3), s) := by
  have q := q_indexOf d hh s nm 7 (s h 3) (by omega) (by omega) (by omega)
  apply CV_eq; apply c_Hall_slateNamed
  simp (disch := first | assumption | omega) only [rn, wk, al, wr_e, td_e, tm_e, mset_eq, mset_ne, if_pos, if_neg, Int.reduceAdd, Int.reduceSub, Int.reduceMul, Int.reduceNeg, Int.reduceLT, Int.reduceLE, Int.reduceEq, Int.cast_ofNat_Int, eq_self, and_true, true_and, ite_self, true_or, or_true, false_or, or_false, and_false, false_and, not_true_eq_false, not_false_eq_true, if_true, if_false, e_Hall_slateNamed_0, q]
theorem q_callerNamed (d : Nat) {h : Int} (hh : isH h) (s : Mem) (nm : Int) (h1 : 0 ≤ s h 4 ∧ s h 4 ≤ 5) : sem (d + 2) 49 [h, nm] s = some (ixa (s (h + 1)) nm 11 (s h 4), s) := by
  have q := q_indexOf d hh s nm 11 (s h 4) (by omega) (by omega) (by omega)
  apply CV_eq; apply c_Hall_callerNamed
  simp (disch := first | assumption | omega) only [rn, wk, al, wr_e, td_e, tm_e, mset_eq, mset_ne, if_pos, if_neg, Int.reduceAdd, Int.reduceSub, Int.reduceMul, Int.reduceNeg, Int.reduceLT, Int.reduceLE, Int.reduceEq, Int.cast_ofNat_Int, eq_self, and_true, true_and, ite_self, true_or, or_true, false_or, or_false, and_false, false_and, not_true_eq_false, not_false_eq_true, if_true, if_false, e_Hall_callerNamed_0, q]
/-- the name is one of the hall's -/
def tkn (f : Int → Int) (nm a b c : Int) : Prop := ixa f nm 0 a ≠ -1 ∨ ixa f nm 7 b ≠ -1 ∨ ixa f nm 11 c ≠ -1
theorem q_isTaken (d : Nat) {h : Int} (hh : isH h) (s : Mem) (nm : Int) (h1 : 0 ≤ s h 1 ∧ s h 1 ≤ 7) (h3 : 0 ≤ s h 3 ∧ s h 3 ≤ 4) (h4 : 0 ≤ s h 4 ∧ s h 4 ≤ 5) : ∃ b, ((b = 1 ∧ tkn (s (h + 1)) nm (s h 1) (s h 3) (s h 4)) ∨ (b = 0 ∧ ¬ tkn (s (h + 1)) nm (s h 1) (s h 3) (s h 4))) ∧ sem (d + 3) 45 [h, nm] s = some (b, s) := by
  have q1 := q_placeNamed d hh s nm h1
  have q2 := q_slateNamed d hh s nm h3
  have q3 := q_callerNamed d hh s nm h4
  by_cases c1 : ixa (s (h + 1)) nm 0 (s h 1) = -1
  · by_cases c2 : ixa (s (h + 1)) nm 7 (s h 3) = -1
    · by_cases c3 : ixa (s (h + 1)) nm 11 (s h 4) = -1
      · refine ⟨0, Or.inr ⟨rfl, fun h => by rcases h with h | h | h; exact h c1; exact h c2; exact h c3⟩, ?_⟩
        apply CV_eq; apply c_Hall_isTaken
        simp (disch := first | assumption | omega) only [rn, wk, al, wr_e, td_e, tm_e, mset_eq, mset_ne, if_pos, if_neg, Int.reduceAdd, Int.reduceSub, Int.reduceMul, Int.reduceNeg, Int.reduceLT, Int.reduceLE, Int.reduceEq, Int.cast_ofNat_Int, eq_self, and_true, true_and, ite_self, true_or, or_true, false_or, or_false, and_false, false_and, not_true_eq_false, not_false_eq_true, if_true, if_false, e_Hall_isTaken_0, e_Hall_isTaken_27, e_Hall_isTaken_31, e_Hall_isTaken_32, q1, q2, q3, c1, c2, c3]
      · refine ⟨1, Or.inl ⟨rfl, Or.inr (Or.inr c3)⟩, ?_⟩
        apply CV_eq; apply c_Hall_isTaken
        simp (disch := first | assumption | omega) only [rn, wk, al, wr_e, td_e, tm_e, mset_eq, mset_ne, if_pos, if_neg, Int.reduceAdd, Int.reduceSub, Int.reduceMul, Int.reduceNeg, Int.reduceLT, Int.reduceLE, Int.reduceEq, Int.cast_ofNat_Int, eq_self, and_true, true_and, ite_self, true_or, or_true, false_or, or_false, and_false, false_and, not_true_eq_false, not_false_eq_true, if_true, if_false, e_Hall_isTaken_0, e_Hall_isTaken_27, e_Hall_isTaken_31, e_Hall_isTaken_32, q1, q2, q3, c1, c2, c3]
    · refine ⟨1, Or.inl ⟨rfl, Or.inr (Or.inl c2)⟩, ?_⟩
      apply CV_eq; apply c_Hall_isTaken
      simp (disch := first | assumption | omega) only [rn, wk, al, wr_e, td_e, tm_e, mset_eq, mset_ne, if_pos, if_neg, Int.reduceAdd, Int.reduceSub, Int.reduceMul, Int.reduceNeg, Int.reduceLT, Int.reduceLE, Int.reduceEq, Int.cast_ofNat_Int, eq_self, and_true, true_and, ite_self, true_or, or_true, false_or, or_false, and_false, false_and, not_true_eq_false, not_false_eq_true, if_true, if_false, e_Hall_isTaken_0, e_Hall_isTaken_27, e_Hall_isTaken_31, e_Hall_isTaken_32, q1, q2, c1, c2]
  · refine ⟨1, Or.inl ⟨rfl, Or.inl c1⟩, ?_⟩
    apply CV_eq; apply c_Hall_isTaken
    simp (disch := first | assumption | omega) only [rn, wk, al, wr_e, td_e, tm_e, mset_eq, mset_ne, if_pos, if_neg, Int.reduceAdd, Int.reduceSub, Int.reduceMul, Int.reduceNeg, Int.reduceLT, Int.reduceLE, Int.reduceEq, Int.cast_ofNat_Int, eq_self, and_true, true_and, ite_self, true_or, or_true, false_or, or_false, and_false, false_and, not_true_eq_false, not_false_eq_true, if_true, if_false, e_Hall_isTaken_0, e_Hall_isTaken_27, e_Hall_isTaken_31, e_Hall_isTaken_32, q1, c1]
theorem lp_nh (d : Nat) (u : Mem) (T : Int → Int) (n q e : Int) (hT : TX T n) (h1 : ∀ i, 0 ≤ i ∧ i < n → u 144 i = T i) (h11 : u 137 11 = n) (h14 : u 137 14 = e) (hq : 0 ≤ q) (hqe : q ≤ e ∧ e ≤ n) (hc : ∀ i, 0 ≤ i → i < e - q → 97 ≤ T (q + i) ∧ T (q + i) ≤ 122) : ∀ (m : Nat) (k z2 : Int), q ≤ k → k + m = e → EV (d + 1) o_R_nameHere 7 [] [137, nmf T q (k - q).toNat, z2, k] u (fun r t => r = nmf T q (e - q).toNat ∧ t = u) := by
  have hn9 := hT.1
  intro m
  induction m with
  | zero =>
    intro k z2 h0 hk
    have ek : k = e := by omega
    rw [ek, e_R_nameHere_7]
    simp (disch := first | assumption | omega) only [rn, wk, al, wr_e, td_e, tm_e, mset_eq, mset_ne, if_pos, if_neg, Int.reduceAdd, Int.reduceSub, Int.reduceMul, Int.reduceNeg, Int.reduceLT, Int.reduceLE, Int.reduceEq, Int.cast_ofNat_Int, eq_self, and_true, true_and, ite_self, true_or, or_true, false_or, or_false, and_false, false_and, not_true_eq_false, not_false_eq_true, if_true, if_false, e_R_nameHere_0, e_R_nameHere_33, h14]
  | succ m ih =>
    intro k z2 h0 hk
    have hx := ih (k + 1) z2 (by omega) (by omega)
    have cb := hc (k - q) (by omega) (by omega)
    rw [show q + (k - q) = k by omega] at cb
    have qb := q_byteAt d u T n k hT h1 h11 (by omega)
    have eb : bta T n k = T k := by unfold bta; rw [if_pos (by omega)]; omega
    rw [eb] at qb
    have e1 : (k + 1 - q).toNat = (k - q).toNat + 1 := by omega
    have e2 : q + ((k - q).toNat : Int) = k := by omega
    have e3 : nmf T q (k + 1 - q).toNat = lor_ (lshl_ (nmf T q (k - q).toNat) 8) (T k) := by
      rw [e1]
      show lor_ (lshl_ (nmf T q (k - q).toNat) 8) (T (q + ((k - q).toNat : Int))) = _
      rw [e2]
    rw [e3] at hx
    rw [e_R_nameHere_7]
    simp (disch := first | assumption | omega) only [rn, wk, al, wr_e, td_e, tm_e, mset_eq, mset_ne, if_pos, if_neg, Int.reduceAdd, Int.reduceSub, Int.reduceMul, Int.reduceNeg, Int.reduceLT, Int.reduceLE, Int.reduceEq, Int.cast_ofNat_Int, eq_self, and_true, true_and, ite_self, true_or, or_true, false_or, or_false, and_false, false_and, not_true_eq_false, not_false_eq_true, if_true, if_false, h14, qb]
    exact hx
theorem r_nameHere (d : Nat) {T : Int → Int} {n p : Int} (hT : TX T n) {u : Mem} (hu : Rs_ T n p u) (hk : tkk T n p = 1) : sem (d + 2) 244 [137] u = some (nmT T n p, u) := by
  obtain ⟨h0, ⟨h11, h13, h14, h12, -⟩, -, h144⟩ := hu
  obtain ⟨c1, c2, c3⟩ := tk_L h0 hk
  obtain ⟨b1, b2, b3⟩ := tke_b (T := T) h0
  have hx := lp_nh d u T n (tkq T n p) (tke T n p) hT h144 h11 h14 (by omega) (by omega) c3 (tke T n p - tkq T n p).toNat (tkq T n p) 0 (by omega) (by omega)
  have e0 : nmf T (tkq T n p) (tkq T n p - tkq T n p).toNat = 0 := by rw [Int.sub_self]; rfl
  rw [e0] at hx
  apply CV_eq; apply c_R_nameHere
  unfold nmT
  simp (disch := first | assumption | omega) only [rn, wk, al, wr_e, td_e, tm_e, mset_eq, mset_ne, if_pos, if_neg, Int.reduceAdd, Int.reduceSub, Int.reduceMul, Int.reduceNeg, Int.reduceLT, Int.reduceLE, Int.reduceEq, Int.cast_ofNat_Int, eq_self, and_true, true_and, ite_self, true_or, or_true, false_or, or_false, and_false, false_and, not_true_eq_false, not_false_eq_true, if_true, if_false, e_R_nameHere_0, e_R_nameHere_33, h13]
  exact hx
theorem lp_fh (d : Nat) {T : Int → Int} {n p : Int} (hT : TX T n) {u : Mem} (hu : Rs_ T n p u) (hk : tkk T n p = 1) (b m : Int) (hb : 0 ≤ b) (hm : 0 ≤ m) (hbm : b + m ≤ 96) : ∀ (k : Nat) (j : Int), 0 ≤ j → j + k = m → EV (d + 2) o_R_findHere 2 [] [137, b, m, j] u (fun r t => r = ix (u 139) (nmT T n p) b k j ∧ t = u) := by
  have qn := r_nameHere d hT hu hk
  intro k
  induction k with
  | zero =>
    intro j h0 hj
    have e : ix (u 139) (nmT T n p) b 0 j = -1 := rfl
    rw [e, e_R_findHere_2]
    simp (disch := first | assumption | omega) only [rn, wk, al, wr_e, td_e, tm_e, mset_eq, mset_ne, if_pos, if_neg, Int.reduceAdd, Int.reduceSub, Int.reduceMul, Int.reduceNeg, Int.reduceLT, Int.reduceLE, Int.reduceEq, Int.cast_ofNat_Int, eq_self, and_true, true_and, ite_self, true_or, or_true, false_or, or_false, and_false, false_and, not_true_eq_false, not_false_eq_true, if_true, if_false, e_R_findHere_0, e_R_findHere_25, e_R_findHere_31]
  | succ k ih =>
    intro j h0 hj
    have hx := ih (j + 1) (by omega) (by omega)
    have e : ix (u 139) (nmT T n p) b (k + 1) j = if u 139 (b + j) = nmT T n p then j else ix (u 139) (nmT T n p) b k (j + 1) := rfl
    rw [e, e_R_findHere_2]
    by_cases c : u 139 (b + j) = nmT T n p
    · rw [if_pos c]
      simp (disch := first | assumption | omega) only [rn, wk, al, wr_e, td_e, tm_e, mset_eq, mset_ne, if_pos, if_neg, Int.reduceAdd, Int.reduceSub, Int.reduceMul, Int.reduceNeg, Int.reduceLT, Int.reduceLE, Int.reduceEq, Int.cast_ofNat_Int, eq_self, and_true, true_and, ite_self, true_or, or_true, false_or, or_false, and_false, false_and, not_true_eq_false, not_false_eq_true, if_true, if_false, e_R_findHere_0, e_R_findHere_25, e_R_findHere_31, qn, lcmp_eq, c]
    · rw [if_neg c]
      simp (disch := first | assumption | omega) only [rn, wk, al, wr_e, td_e, tm_e, mset_eq, mset_ne, if_pos, if_neg, Int.reduceAdd, Int.reduceSub, Int.reduceMul, Int.reduceNeg, Int.reduceLT, Int.reduceLE, Int.reduceEq, Int.cast_ofNat_Int, eq_self, and_true, true_and, ite_self, true_or, or_true, false_or, or_false, and_false, false_and, not_true_eq_false, not_false_eq_true, if_true, if_false, e_R_findHere_0, e_R_findHere_25, e_R_findHere_31, qn, lcmp_eq, c]
      exact hx
theorem r_findHere (d : Nat) {T : Int → Int} {n p : Int} (hT : TX T n) {u : Mem} (hu : Rs_ T n p u) (hk : tkk T n p = 1) (b m : Int) (hb : 0 ≤ b) (hm : 0 ≤ m) (hbm : b + m ≤ 96) : sem (d + 3) 243 [137, b, m] u = some (ixa (u 139) (nmT T n p) b m, u) := by
  have hx := lp_fh d hT hu hk b m hb hm hbm m.toNat 0 (by omega) (by omega)
  apply CV_eq; apply c_R_findHere
  simp (disch := first | assumption | omega) only [rn, wk, al, wr_e, td_e, tm_e, mset_eq, mset_ne, if_pos, if_neg, Int.reduceAdd, Int.reduceSub, Int.reduceMul, Int.reduceNeg, Int.reduceLT, Int.reduceLE, Int.reduceEq, Int.cast_ofNat_Int, eq_self, and_true, true_and, ite_self, true_or, or_true, false_or, or_false, and_false, false_and, not_true_eq_false, not_false_eq_true, if_true, if_false, e_R_findHere_0, e_R_findHere_25, e_R_findHere_31]
  exact hx
theorem Rs_w {T : Int → Int} {n p : Int} {u w : Mem} (h : ∀ i, ((11 ≤ i ∧ i ≤ 15) ∨ i = 18 ∨ i = 17) → w 137 i = u 137 i) (h2 : ∀ i, w 144 i = u 144 i) (hu : Rs_ T n p u) : Rs_ T n p w := by
  obtain ⟨g0, g1, g2, g3⟩ := hu
  refine ⟨g0, ?_, ⟨by rw [h _ (by omega)]; exact g2.1, by rw [h _ (by omega)]; exact g2.2⟩, fun i hi => by rw [h2]; exact g3 i hi⟩
  unfold TkR at g1 ⊢
  rw [h 11 (by omega), h 12 (by omega), h 13 (by omega), h 14 (by omega), h 15 (by omega)]
  exact g1
/-- a name that is to be found -/
def OkP (T : Int → Int) (n p : Int) (u : Mem) (b m to : Int) (r : Int) (w : Mem) : Prop := (r = 1 ∧ isNm T n p ∧ ixa (u 139) (nmT T n p) b m ≠ -1 ∧ (∀ c i, ¬ (c = 137 ∧ 12 ≤ i ∧ i ≤ 15) → ¬ (c = 138 ∧ i = to) → w c i = u c i) ∧ w 138 to = ixa (u 139) (nmT T n p) b m ∧ Rs_ T n (tke T n p) w) ∨ (r = 0 ∧ (∀ c i, ¬ (c = 137 ∧ (i = 17 ∨ i = 18)) → ¬ (c = 138 ∧ i = to) → w c i = u c i) ∧ w 137 17 = tkq T n p ∧ ((¬ isNm T n p ∧ w 137 18 = flt T n p 2) ∨ (isNm T n p ∧ ixa (u 139) (nmT T n p) b m = -1 ∧ w 137 18 = flt T n p 3)))
theorem r_oldOne (d : Nat) {T : Int → Int} {n p : Int} (hT : TX T n) {u : Mem} (hu : Rs_ T n p u) (b m to : Int) (hb : 0 ≤ b) (hm : 0 ≤ m) (hbm : b + m ≤ 96) (hto : 0 ≤ to ∧ to < 5208) : CV (d + 4) 248 [137, b, m, to] u (OkP T n p u b m to) := by
  obtain ⟨x, hx, qn⟩ := r_isName d hT hu
  apply c_R_oldOne
  rcases hx with ⟨e, hx⟩ | ⟨e, hx⟩
  · subst e
    have qf := r_findHere d hT hu hx.1 b m hb hm hbm
    obtain ⟨k, hk⟩ : ∃ k, k = ixa (u 139) (nmT T n p) b m := ⟨_, rfl⟩
    have hkb := ixa_b (u 139) (nmT T n p) b hm
    rw [← hk] at qf hkb
    obtain ⟨v, hv⟩ : ∃ v, v = mset u 138 to k := ⟨_, rfl⟩
    have vf : ∀ c i, ¬ (c = 138 ∧ i = to) → v c i = u c i := fun c i hc => by rw [hv, mset_ne (by omega)]
    have hv2 : Rs_ T n p v := Rs_w (fun i _ => vf _ _ (by omega)) (fun i => vf _ _ (by omega)) hu
    have v8 : v 138 to = k := by rw [hv, mset_eq rfl rfl]
    by_cases c : k = -1
    · have q3 := q_Rfails (d + 2) v 3 hv2
      have hp : OkP T n p u b m to 0 (mset (mset v 137 18 (flt T n p 3)) 137 17 (tkq T n p)) := Or.inr ⟨rfl, fun c i h1 h2 => by rw [mset_ne (by omega), mset_ne (by omega)]; exact vf c i h2, mset_eq rfl rfl, Or.inr ⟨hx, by rw [← hk]; exact c, by rw [mset_ne (by omega), mset_eq rfl rfl]⟩⟩
      rw [c] at qf hv v8
      simp (disch := first | assumption | omega) only [rn, wk, al, wr_e, td_e, tm_e, mset_eq, mset_ne, if_pos, if_neg, Int.reduceAdd, Int.reduceSub, Int.reduceMul, Int.reduceNeg, Int.reduceLT, Int.reduceLE, Int.reduceEq, Int.cast_ofNat_Int, eq_self, and_true, true_and, ite_self, true_or, or_true, false_or, or_false, and_false, false_and, not_true_eq_false, not_false_eq_true, if_true, if_false, e_R_oldOne_0, e_R_oldOne_15, e_R_oldOne_43, qn, qf, ← hv, v8, q3]
      exact hp
    · simp (disch := first | assumption | omega) only [rn, wk, al, wr_e, td_e, tm_e, mset_eq, mset_ne, if_pos, if_neg, Int.reduceAdd, Int.reduceSub, Int.reduceMul, Int.reduceNeg, Int.reduceLT, Int.reduceLE, Int.reduceEq, Int.cast_ofNat_Int, eq_self, and_true, true_and, ite_self, true_or, or_true, false_or, or_false, and_false, false_and, not_true_eq_false, not_false_eq_true, if_true, if_false, e_R_oldOne_0, e_R_oldOne_15, e_R_oldOne_43, qn, qf, ← hv, v8, c]
      refine EV_call (CV_mono (r_ahd (d + 1) hT hv2) ?_)
      rintro r w ⟨a, b'⟩
      have hp : OkP T n p u b m to 1 w := Or.inl ⟨rfl, hx, by rw [← hk]; exact c, fun c i h1 h2 => by rw [a c i h1]; exact vf c i h2, by rw [a _ _ (by omega), v8, hk], b'⟩
      simp (disch := first | assumption | omega) only [rn, wk, al, wr_e, td_e, tm_e, mset_eq, mset_ne, if_pos, if_neg, Int.reduceAdd, Int.reduceSub, Int.reduceMul, Int.reduceNeg, Int.reduceLT, Int.reduceLE, Int.reduceEq, Int.cast_ofNat_Int, eq_self, and_true, true_and, ite_self, true_or, or_true, false_or, or_false, and_false, false_and, not_true_eq_false, not_false_eq_true, if_true, if_false, e_R_oldOne_0, e_R_oldOne_15, e_R_oldOne_43]
      exact hp
  · subst e
    have q2 := q_Rfails (d + 2) u 2 hu
    have hp : OkP T n p u b m to 0 (mset (mset u 137 18 (flt T n p 2)) 137 17 (tkq T n p)) := Or.inr ⟨rfl, fun c i h1 h2 => by rw [mset_ne (by omega), mset_ne (by omega)], mset_eq rfl rfl, Or.inl ⟨hx, by rw [mset_ne (by omega), mset_eq rfl rfl]⟩⟩
    simp (disch := first | assumption | omega) only [rn, wk, al, wr_e, td_e, tm_e, mset_eq, mset_ne, if_pos, if_neg, Int.reduceAdd, Int.reduceSub, Int.reduceMul, Int.reduceNeg, Int.reduceLT, Int.reduceLE, Int.reduceEq, Int.cast_ofNat_Int, eq_self, and_true, true_and, ite_self, true_or, or_true, false_or, or_false, and_false, false_and, not_true_eq_false, not_false_eq_true, if_true, if_false, e_R_oldOne_0, e_R_oldOne_15, e_R_oldOne_43, qn, q2]
    exact hp
