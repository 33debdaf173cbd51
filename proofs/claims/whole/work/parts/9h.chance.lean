/-! ===== H2: chance ===== -/
def wt (F : Int → Int) (o : Int) : Nat → Int → Int → Int
  | 0, _, k => if k ≤ 0 then 1 else 0
  | n + 1, c, k => o * wt F o n (c + 1) k + (16 - o) * wt F o n (c + 1) (k - F c)
theorem wt_b {F : Int → Int} {o : Int} (ho : 0 ≤ o ∧ o ≤ 16) : ∀ (n : Nat) (c k : Int), 0 ≤ wt F o n c k ∧ wt F o n c k ≤ 16 ^ n := by
  intro n
  induction n with
  | zero => intro c k; show 0 ≤ (if k ≤ 0 then (1 : Int) else 0) ∧ (if k ≤ 0 then (1 : Int) else 0) ≤ 16 ^ 0; rw [Int.pow_zero]; split <;> omega
  | succ n ih =>
    intro c k
    have h1 := ih (c + 1) k
    have h2 := ih (c + 1) (k - F c)
    show 0 ≤ o * wt F o n (c + 1) k + (16 - o) * wt F o n (c + 1) (k - F c) ∧ o * wt F o n (c + 1) k + (16 - o) * wt F o n (c + 1) (k - F c) ≤ 16 ^ (n + 1)
    have a1 : 0 ≤ o * wt F o n (c + 1) k := Int.mul_nonneg ho.1 h1.1
    have a2 : 0 ≤ (16 - o) * wt F o n (c + 1) (k - F c) := Int.mul_nonneg (by omega) h2.1
    have b1 : o * wt F o n (c + 1) k ≤ o * 16 ^ n := Int.mul_le_mul_of_nonneg_left h1.2 ho.1
    have b2 : (16 - o) * wt F o n (c + 1) (k - F c) ≤ (16 - o) * 16 ^ n := Int.mul_le_mul_of_nonneg_left h2.2 (by omega)
    have e : o * 16 ^ n + (16 - o) * 16 ^ n = 16 ^ (n + 1) := by
      rw [← Int.add_mul, show o + (16 - o) = 16 by omega, Int.pow_succ, Int.mul_comm]
    omega
def tq (F : Int → Int) (o k : Int) : Nat → Int → Int → Int → Int → Int
  | 0, _, _, p, sm => if k ≤ sm then p else 0
  | n + 1, c, e, p, sm => if e % 2 = 1 then tq F o k n (c + 1) (e / 2) (p * (16 - o)) (sm + F c) else tq F o k n (c + 1) (e / 2) (p * o) sm
theorem tq_sum (F : Int → Int) (o k : Int) : ∀ (n : Nat) (c p sm : Int), sg (fun e => tq F o k n c e p sm) 0 (2 ^ n) = p * wt F o n c (k - sm) := by
  intro n
  induction n with
  | zero =>
    intro c p sm
    show (if k ≤ sm then p else 0) + 0 = p * (if k - sm ≤ 0 then 1 else 0)
    by_cases h : k ≤ sm
    · rw [if_pos h, if_pos (by omega)]; omega
    · rw [if_neg h, if_neg (by omega)]; omega
  | succ n ih =>
    intro c p sm
    rw [show 2 ^ (n + 1) = 2 * 2 ^ n by rw [Nat.pow_succ, Nat.mul_comm], sg_blk]
    have e : ∀ x : Int, sg (fun b => tq F o k (n + 1) c (((2 : Nat) : Int) * x + b) p sm) 0 2 = tq F o k n (c + 1) x (p * o) sm + tq F o k n (c + 1) x (p * (16 - o)) (sm + F c) := by
      intro x
      show tq F o k (n + 1) c (2 * x + 0) p sm + (tq F o k (n + 1) c (2 * x + (0 + 1)) p sm + 0) = _
      have e0 : tq F o k (n + 1) c (2 * x + 0) p sm = tq F o k n (c + 1) x (p * o) sm := by
        show (if (2 * x + 0) % 2 = 1 then _ else _) = _
        rw [if_neg (by omega), show (2 * x + 0) / 2 = x by omega]
      have e1 : tq F o k (n + 1) c (2 * x + (0 + 1)) p sm = tq F o k n (c + 1) x (p * (16 - o)) (sm + F c) := by
        show (if (2 * x + (0 + 1)) % 2 = 1 then _ else _) = _
        rw [if_pos (by omega), show (2 * x + (0 + 1)) / 2 = x by omega]
      rw [e0, e1, Int.add_zero]
    rw [sg_congr (2 ^ n) 0 (fun x _ _ => e x), sg_add, ih, ih]
    show p * o * wt F o n (c + 1) (k - sm) + p * (16 - o) * wt F o n (c + 1) (k - (sm + F c)) = p * (o * wt F o n (c + 1) (k - sm) + (16 - o) * wt F o n (c + 1) (k - sm - F c))
    rw [Int.mul_add, Int.mul_assoc, Int.mul_assoc, show k - (sm + F c) = k - sm - F c by omega]
theorem isin_tab : ∀ e : Fin 256, ∀ c : Fin 8, iand_ (ishr_ (e.val : Int) (c.val : Int)) 1 = ((e.val / 2 ^ c.val % 2 : Nat) : Int) := by decide +kernel
theorem isin_e {e c : Int} (he : 0 ≤ e ∧ e < 256) (hc : 0 ≤ c ∧ c < 8) : iand_ (ishr_ e c) 1 = e / 2 ^ c.toNat % 2 := by
  obtain ⟨a, rfl⟩ : ∃ a : Nat, e = a := ⟨e.toNat, by omega⟩
  obtain ⟨b, rfl⟩ : ∃ b : Nat, c = b := ⟨c.toNat, by omega⟩
  have := isin_tab ⟨a, by omega⟩ ⟨b, by omega⟩
  rw [this, show ((b : Int)).toNat = b by omega]
  push_cast
  rfl
theorem q_isIn (d : Nat) (e c : Int) (s : Mem) (he : 0 ≤ e ∧ e < 256) (hc : 0 ≤ c ∧ c < 8) : sem (d + 1) 343 [137, e, c] s = some (if e / 2 ^ c.toNat % 2 = 1 then 1 else 0, s) := by
  apply CV_eq; apply c_R_isIn
  have := isin_e he hc
  simp (disch := first | assumption | omega) only [rn, wk, al, wr_e, td_e, tm_e, mset_eq, mset_ne, if_pos, if_neg, Int.reduceAdd, Int.reduceSub, Int.reduceMul, Int.reduceNeg, Int.reduceLT, Int.reduceLE, Int.reduceEq, Int.cast_ofNat_Int, eq_self, and_true, true_and, ite_self, true_or, or_true, false_or, or_false, and_false, false_and, not_true_eq_false, not_false_eq_true, if_true, if_false, e_R_isIn_0, e_R_isIn_13, e_R_isIn_14, this]
  repeat' split
theorem half_ {e c : Int} (hc : 0 ≤ c ∧ c < 8) : e / 2 ^ (c + 1).toNat = e / 2 ^ c.toNat / 2 := by
  obtain rfl | rfl | rfl | rfl | rfl | rfl | rfl | rfl : c = 0 ∨ c = 1 ∨ c = 2 ∨ c = 3 ∨ c = 4 ∨ c = 5 ∨ c = 6 ∨ c = 7 := by omega
  · show e / 2 = e / 1 / 2; omega
  · show e / 4 = e / 2 / 2; omega
  · show e / 8 = e / 4 / 2; omega
  · show e / 16 = e / 8 / 2; omega
  · show e / 32 = e / 16 / 2; omega
  · show e / 64 = e / 32 / 2; omega
  · show e / 128 = e / 64 / 2; omega
  · show e / 256 = e / 128 / 2; omega
theorem ish_1 {n : Int} (h : 0 ≤ n ∧ n ≤ 8) : ishl_ 1 n = 2 ^ n.toNat := by
  obtain rfl | rfl | rfl | rfl | rfl | rfl | rfl | rfl | rfl : n = 0 ∨ n = 1 ∨ n = 2 ∨ n = 3 ∨ n = 4 ∨ n = 5 ∨ n = 6 ∨ n = 7 ∨ n = 8 := by omega
  all_goals decide
theorem lsh_1 {n : Int} (h : 0 ≤ n ∧ n ≤ 8) : lshl_ 1 (4 * n) = 16 ^ n.toNat := by
  obtain rfl | rfl | rfl | rfl | rfl | rfl | rfl | rfl | rfl : n = 0 ∨ n = 1 ∨ n = 2 ∨ n = 3 ∨ n = 4 ∨ n = 5 ∨ n = 6 ∨ n = 7 ∨ n = 8 := by omega
  all_goals decide
theorem p2_b {n : Int} (h : 0 ≤ n ∧ n ≤ 8) : (0 : Int) < 2 ^ n.toNat ∧ (2 : Int) ^ n.toNat ≤ 256 := by
  obtain rfl | rfl | rfl | rfl | rfl | rfl | rfl | rfl | rfl : n = 0 ∨ n = 1 ∨ n = 2 ∨ n = 3 ∨ n = 4 ∨ n = 5 ∨ n = 6 ∨ n = 7 ∨ n = 8 := by omega
  all_goals decide
/-- the class: one set of the calls -/
theorem lp_w2 (d : Nat) (A s : Mem) (hA : A = win s 37) (hv : VB A) (hk : vKs A) (x b k it e : Int) (hx : 0 ≤ x ∧ x < A 0 3) (hb : 0 ≤ b ∧ b ≤ 90) (he : 0 ≤ e ∧ e < 256) (Q : Int → Mem → Prop) : ∀ (n : Nat) (c p sm l : Int), 0 ≤ c → c + n = A 0 5 → (0 ≤ p ∧ p ≤ 16 ^ c.toNat) → (0 ≤ sm ∧ sm ≤ 99 * c) → (∀ p' sm' l', (if k ≤ sm' then p' else 0) = tq (fun k => pt A (A 9 k) x b) (A 0 0) k n c (e / 2 ^ c.toNat) p sm → (0 ≤ p' ∧ p' ≤ 4294967296) → EV (d + 3) o_Hall_weightOfAtLeast 106 [] [37, x, b, k, it, 0, e, sm', p', 0, A 0 5, l'] s Q) → EV (d + 3) o_Hall_weightOfAtLeast 26 [] [37, x, b, k, it, 0, e, sm, p, 0, c, l] s Q := by
  have e5 : s 37 5 = A 0 5 := by rw [hA]; rfl
  have e3 : s 37 3 = A 0 3 := by rw [hA]; rfl
  have e0 : s 37 0 = A 0 0 := by rw [hA]; rfl
  have h1 := hv.1
  unfold VC at h1
  intro n
  induction n with
  | zero =>
    intro c p sm l h0 hc hp hsm hq
    have ec : c = A 0 5 := by omega
    have hb8 : (16 : Int) ^ c.toNat ≤ 4294967296 := by
      have : c.toNat ≤ 8 := by omega
      obtain hx | hx | hx | hx | hx | hx | hx | hx | hx : c.toNat = 0 ∨ c.toNat = 1 ∨ c.toNat = 2 ∨ c.toNat = 3 ∨ c.toNat = 4 ∨ c.toNat = 5 ∨ c.toNat = 6 ∨ c.toNat = 7 ∨ c.toNat = 8 := by omega
      all_goals rw [hx]; decide
    have hq := hq p sm l rfl (by omega)
    rw [e_Hall_weightOfAtLeast_26]
    simp (disch := first | assumption | omega) only [rn, wk, al, wr_e, td_e, tm_e, mset_eq, mset_ne, if_pos, if_neg, Int.reduceAdd, Int.reduceSub, Int.reduceMul, Int.reduceNeg, Int.reduceLT, Int.reduceLE, Int.reduceEq, Int.cast_ofNat_Int, eq_self, and_true, true_and, ite_self, true_or, or_true, false_or, or_false, and_false, false_and, not_true_eq_false, not_false_eq_true, if_true, if_false, e5]
    rw [ec]; exact hq
  | succ n ih =>
    intro c p sm l h0 hc hp hsm hq
    have hpt := pt_ok hv (b := b) (hk c (by omega)) hx
    have qa : sem (d + 3) 129 [37, c, x, b] s = some (pt A (A 9 c) x b, s) := by
      have := q_amountAt d isH37 s c x b (by rw [← hA]; exact hv) (by omega) (by have := hk c (by omega); rw [hA] at this; exact this) (by omega) hb
      rw [hA]; exact this
    have qi := isin_e he (c := c) (by omega)
    have hp16 := p16_b (c + 1).toNat (by omega)
    have ep : (16 : Int) ^ (c + 1).toNat = 16 ^ c.toNat * 16 := by rw [show (c + 1).toNat = c.toNat + 1 by omega, Int.pow_succ]
    have m1 : 0 ≤ p * (16 - A 0 0) := Int.mul_nonneg hp.1 (by omega)
    have m2 : p * (16 - A 0 0) ≤ p * 16 := Int.mul_le_mul_of_nonneg_left (by omega) hp.1
    have m3 : 0 ≤ p * A 0 0 := Int.mul_nonneg hp.1 (by omega)
    have m4 : p * A 0 0 ≤ p * 16 := Int.mul_le_mul_of_nonneg_left (by omega) hp.1
    rw [e_Hall_weightOfAtLeast_26]
    by_cases cb : e / 2 ^ c.toNat % 2 = 1
    · rw [cb] at qi
      have hi := ih (c + 1) (p * (16 - A 0 0)) (sm + pt A (A 9 c) x b) 0 (by omega) (by omega) (by omega) (by omega) (fun p' sm' l' e1 e2 => hq p' sm' l' (by
        rw [half_ (by omega)] at e1
        rw [e1]
        show _ = (if e / 2 ^ c.toNat % 2 = 1 then _ else _)
        rw [if_pos cb]) e2)
      simp (disch := first | assumption | omega) only [rn, wk, al, wr_e, td_e, tm_e, mset_eq, mset_ne, if_pos, if_neg, Int.reduceAdd, Int.reduceSub, Int.reduceMul, Int.reduceNeg, Int.reduceLT, Int.reduceLE, Int.reduceEq, Int.cast_ofNat_Int, eq_self, and_true, true_and, ite_self, true_or, or_true, false_or, or_false, and_false, false_and, not_true_eq_false, not_false_eq_true, if_true, if_false, e_Hall_weightOfAtLeast_0, e_Hall_weightOfAtLeast_49, e_Hall_weightOfAtLeast_50, e_Hall_weightOfAtLeast_63, e_Hall_weightOfAtLeast_71, e_Hall_weightOfAtLeast_89, e_Hall_weightOfAtLeast_97, e_Hall_weightOfAtLeast_119, e_Hall_weightOfAtLeast_120, e_Hall_weightOfAtLeast_129, e5, e0, qi, qa, wl_e]
      exact hi
    · rw [show e / 2 ^ c.toNat % 2 = 0 by omega] at qi
      have hi := ih (c + 1) (p * A 0 0) sm 1 (by omega) (by omega) (by omega) (by omega) (fun p' sm' l' e1 e2 => hq p' sm' l' (by
        rw [half_ (by omega)] at e1
        rw [e1]
        show _ = (if e / 2 ^ c.toNat % 2 = 1 then _ else _)
        rw [if_neg cb]) e2)
      simp (disch := first | assumption | omega) only [rn, wk, al, wr_e, td_e, tm_e, mset_eq, mset_ne, if_pos, if_neg, Int.reduceAdd, Int.reduceSub, Int.reduceMul, Int.reduceNeg, Int.reduceLT, Int.reduceLE, Int.reduceEq, Int.cast_ofNat_Int, eq_self, and_true, true_and, ite_self, true_or, or_true, false_or, or_false, and_false, false_and, not_true_eq_false, not_false_eq_true, if_true, if_false, e_Hall_weightOfAtLeast_0, e_Hall_weightOfAtLeast_49, e_Hall_weightOfAtLeast_50, e_Hall_weightOfAtLeast_63, e_Hall_weightOfAtLeast_71, e_Hall_weightOfAtLeast_89, e_Hall_weightOfAtLeast_97, e_Hall_weightOfAtLeast_119, e_Hall_weightOfAtLeast_120, e_Hall_weightOfAtLeast_129, e5, e0, qi, wl_e, Int.add_zero]
      exact hi
/-- the class: all sets of the calls -/
theorem lp_w1 (d : Nat) (A s : Mem) (hA : A = win s 37) (hv : VB A) (hk : vKs A) (x b k : Int) (hx : 0 ≤ x ∧ x < A 0 3) (hb : 0 ≤ b ∧ b ≤ 90) (Q : Int → Mem → Prop) : ∀ (n : Nat) (e it p sm c l : Int), 0 ≤ e → e + n = 2 ^ (A 0 5).toNat → (0 ≤ it ∧ it ≤ 4294967296 * e) → (∀ e p sm c l, EV (d + 3) o_Hall_weightOfAtLeast 129 [] [37, x, b, k, it + sg (fun e => tq (fun k => pt A (A 9 k) x b) (A 0 0) k (A 0 5).toNat 0 e 1 0) (2 ^ (A 0 5).toNat - n) n, 0, e, sm, p, 0, c, l] s Q) → EV (d + 3) o_Hall_weightOfAtLeast 6 [] [37, x, b, k, it, 0, e, sm, p, 0, c, l] s Q := by
  have e5 : s 37 5 = A 0 5 := by rw [hA]; rfl
  have h1 := hv.1
  unfold VC at h1
  have e1 := ish_1 (n := A 0 5) (by omega)
  have p2 := p2_b (n := A 0 5) (by omega)
  intro n
  induction n with
  | zero =>
    intro e it p sm c l h0 he hit hq
    have hq := hq e p sm c l
    have : it + sg (fun e => tq (fun k => pt A (A 9 k) x b) (A 0 0) k (A 0 5).toNat 0 e 1 0) (2 ^ (A 0 5).toNat - ((0 : Nat) : Int)) 0 = it := Int.add_zero it
    rw [this] at hq
    rw [e_Hall_weightOfAtLeast_6]
    simp (disch := first | assumption | omega) only [rn, wk, al, wr_e, td_e, tm_e, mset_eq, mset_ne, if_pos, if_neg, Int.reduceAdd, Int.reduceSub, Int.reduceMul, Int.reduceNeg, Int.reduceLT, Int.reduceLE, Int.reduceEq, Int.cast_ofNat_Int, eq_self, and_true, true_and, ite_self, true_or, or_true, false_or, or_false, and_false, false_and, not_true_eq_false, not_false_eq_true, if_true, if_false, e5, e1]
    exact hq
  | succ n ih =>
    intro e it p sm c l h0 he hit hq
    rw [e_Hall_weightOfAtLeast_6]
    simp (disch := first | assumption | omega) only [rn, wk, al, wr_e, td_e, tm_e, mset_eq, mset_ne, if_pos, if_neg, Int.reduceAdd, Int.reduceSub, Int.reduceMul, Int.reduceNeg, Int.reduceLT, Int.reduceLE, Int.reduceEq, Int.cast_ofNat_Int, eq_self, and_true, true_and, ite_self, true_or, or_true, false_or, or_false, and_false, false_and, not_true_eq_false, not_false_eq_true, if_true, if_false, e5, e1]
    refine lp_w2 d A s hA hv hk x b k it e hx hb (by omega) Q (A 0 5).toNat 0 1 0 l (by omega) (by omega) ⟨by omega, by show (1 : Int) ≤ 16 ^ 0; decide⟩ (by omega) ?_
    intro p' sm' l' e2 e3
    have e4 : e / 2 ^ (0 : Int).toNat = e := by show e / 1 = e; omega
    rw [e4] at e2
    have step : ∀ it', it' = it + tq (fun k => pt A (A 9 k) x b) (A 0 0) k (A 0 5).toNat 0 e 1 0 → EV (d + 3) o_Hall_weightOfAtLeast 6 [] [37, x, b, k, it', 0, e + 1, sm', p', 0, A 0 5, l'] s Q := by
      intro it' hit'
      have hb1 : 0 ≤ tq (fun k => pt A (A 9 k) x b) (A 0 0) k (A 0 5).toNat 0 e 1 0 ∧ tq (fun k => pt A (A 9 k) x b) (A 0 0) k (A 0 5).toNat 0 e 1 0 ≤ 4294967296 := by
        rw [← e2]; split <;> omega
      refine ih (e + 1) it' p' sm' _ l' (by omega) (by omega) (by omega) ?_
      intro a1 a2 a3 a4 a5
      have := hq a1 a2 a3 a4 a5
      have e6 : (2 : Int) ^ (A 0 5).toNat - ((n + 1 : Nat) : Int) = e := by omega
      have e7 : (2 : Int) ^ (A 0 5).toNat - (n : Int) = e + 1 := by omega
      rw [e6] at this
      rw [e7, hit', Int.add_assoc]
      exact this
    by_cases c2 : k ≤ sm'
    · rw [if_pos c2] at e2
      have := step (it + p') (by rw [e2])
      simp (disch := first | assumption | omega) only [rn, wk, al, wr_e, td_e, tm_e, mset_eq, mset_ne, if_pos, if_neg, Int.reduceAdd, Int.reduceSub, Int.reduceMul, Int.reduceNeg, Int.reduceLT, Int.reduceLE, Int.reduceEq, Int.cast_ofNat_Int, eq_self, and_true, true_and, ite_self, true_or, or_true, false_or, or_false, and_false, false_and, not_true_eq_false, not_false_eq_true, if_true, if_false, e_Hall_weightOfAtLeast_0, e_Hall_weightOfAtLeast_49, e_Hall_weightOfAtLeast_50, e_Hall_weightOfAtLeast_63, e_Hall_weightOfAtLeast_71, e_Hall_weightOfAtLeast_89, e_Hall_weightOfAtLeast_97, e_Hall_weightOfAtLeast_106, e_Hall_weightOfAtLeast_119, e_Hall_weightOfAtLeast_120, e_Hall_weightOfAtLeast_129, wl_e]
      exact this
    · rw [if_neg c2] at e2
      have := step it (by rw [← e2, Int.add_zero])
      simp (disch := first | assumption | omega) only [rn, wk, al, wr_e, td_e, tm_e, mset_eq, mset_ne, if_pos, if_neg, Int.reduceAdd, Int.reduceSub, Int.reduceMul, Int.reduceNeg, Int.reduceLT, Int.reduceLE, Int.reduceEq, Int.cast_ofNat_Int, eq_self, and_true, true_and, ite_self, true_or, or_true, false_or, or_false, and_false, false_and, not_true_eq_false, not_false_eq_true, if_true, if_false, e_Hall_weightOfAtLeast_0, e_Hall_weightOfAtLeast_49, e_Hall_weightOfAtLeast_50, e_Hall_weightOfAtLeast_63, e_Hall_weightOfAtLeast_71, e_Hall_weightOfAtLeast_89, e_Hall_weightOfAtLeast_97, e_Hall_weightOfAtLeast_106, e_Hall_weightOfAtLeast_119, e_Hall_weightOfAtLeast_120, e_Hall_weightOfAtLeast_129, wl_e, Int.add_zero]
      exact this
theorem q_weight (d : Nat) (A s : Mem) (hA : A = win s 37) (hv : VB A) (hk : vKs A) (x b k : Int) (hx : 0 ≤ x ∧ x < A 0 3) (hb : 0 ≤ b ∧ b ≤ 90) (n : Nat) (hn : (A 0 5).toNat = n) : sem (d + 4) 189 [37, x, b, k] s = some (wt (fun k => pt A (A 9 k) x b) (A 0 0) n 0 k, s) := by
  apply CV_eq; apply c_Hall_weightOfAtLeast
  have hx1 := lp_w1 d A s hA hv hk x b k hx hb (fun r t => r = wt (fun k => pt A (A 9 k) x b) (A 0 0) n 0 k ∧ t = s) (2 ^ n) 0 0 0 0 0 0 (by omega) (by rw [hn]; push_cast; omega) (by omega) (by
    intro a1 a2 a3 a4 a5
    have es := tq_sum (fun k => pt A (A 9 k) x b) (A 0 0) k n 0 1 0
    have e0' : (2 : Int) ^ n - ((2 ^ n : Nat) : Int) = 0 := by push_cast; omega
    rw [hn, e0', es, Int.one_mul, Int.zero_add, Int.sub_zero]
    rw [e_Hall_weightOfAtLeast_129]
    simp (disch := first | assumption | omega) only [rn, wk, al, wr_e, td_e, tm_e, mset_eq, mset_ne, if_pos, if_neg, Int.reduceAdd, Int.reduceSub, Int.reduceMul, Int.reduceNeg, Int.reduceLT, Int.reduceLE, Int.reduceEq, Int.cast_ofNat_Int, eq_self, and_true, true_and, ite_self, true_or, or_true, false_or, or_false, and_false, false_and, not_true_eq_false, not_false_eq_true, if_true, if_false])
  simp (disch := first | assumption | omega) only [rn, wk, al, wr_e, td_e, tm_e, mset_eq, mset_ne, if_pos, if_neg, Int.reduceAdd, Int.reduceSub, Int.reduceMul, Int.reduceNeg, Int.reduceLT, Int.reduceLE, Int.reduceEq, Int.cast_ofNat_Int, eq_self, and_true, true_and, ite_self, true_or, or_true, false_or, or_false, and_false, false_and, not_true_eq_false, not_false_eq_true, if_true, if_false, e_Hall_weightOfAtLeast_0, e_Hall_weightOfAtLeast_49, e_Hall_weightOfAtLeast_50, e_Hall_weightOfAtLeast_63, e_Hall_weightOfAtLeast_71, e_Hall_weightOfAtLeast_89, e_Hall_weightOfAtLeast_97, e_Hall_weightOfAtLeast_106, e_Hall_weightOfAtLeast_119, e_Hall_weightOfAtLeast_120, e_Hall_weightOfAtLeast_129]
  exact hx1
theorem lp_ch2 (d : Nat) (A s : Mem) (h : RB A s) (hk : RK A (s 138)) (x b k it e : Int) (hx : 0 ≤ x ∧ x < A 0 3) (hb : 0 ≤ b ∧ b ≤ 90) (he : 0 ≤ e ∧ e < 256) (Q : Int → Mem → Prop) : ∀ (n : Nat) (c p sm : Int), 0 ≤ c → c + n = A 0 5 → (0 ≤ p ∧ p ≤ 16 ^ c.toNat) → (0 ≤ sm ∧ sm ≤ 99 * c) → (∀ p' sm', (if k ≤ sm' then p' else 0) = tq (fun k => pt A (A 9 k) x b) (A 0 0) k n c (e / 2 ^ c.toNat) p sm → (0 ≤ p' ∧ p' ≤ 4294967296) → EV (d + 4) o_R_chance 146 [] [137, x, b, k, A 0 5, it, 0, e, p', 0, sm', A 0 5] s Q) → EV (d + 4) o_R_chance 69 [] [137, x, b, k, A 0 5, it, 0, e, p, 0, sm, c] s Q := by
  have e5 : s 138 4 = A 0 5 := h.2.1.2.2.2.2.1
  have e0 : s 138 5 = A 0 0 := h.2.1.2.2.2.2.2.1
  have h1 := h.1.1
  unfold VC at h1
  intro n
  induction n with
  | zero =>
    intro c p sm h0 hc hp hsm hq
    have ec : c = A 0 5 := by omega
    have hb8 : (16 : Int) ^ c.toNat ≤ 4294967296 := by
      have : c.toNat ≤ 8 := by omega
      have := p16_b c.toNat (by omega)
      obtain hx | hx | hx | hx | hx | hx | hx | hx | hx : c.toNat = 0 ∨ c.toNat = 1 ∨ c.toNat = 2 ∨ c.toNat = 3 ∨ c.toNat = 4 ∨ c.toNat = 5 ∨ c.toNat = 6 ∨ c.toNat = 7 ∨ c.toNat = 8 := by omega
      all_goals rw [hx]; decide
    have hq := hq p sm rfl (by omega)
    rw [e_R_chance_69]
    simp (disch := first | assumption | omega) only [rn, wk, al, wr_e, td_e, tm_e, mset_eq, mset_ne, if_pos, if_neg, Int.reduceAdd, Int.reduceSub, Int.reduceMul, Int.reduceNeg, Int.reduceLT, Int.reduceLE, Int.reduceEq, Int.cast_ofNat_Int, eq_self, and_true, true_and, ite_self, true_or, or_true, false_or, or_false, and_false, false_and, not_true_eq_false, not_false_eq_true, if_true, if_false]
    rw [ec]; exact hq
  | succ n ih =>
    intro c p sm h0 hc hp hsm hq
    have hpt := pt_ok h.1 (b := b) (rk_v h.1.1 h.1.2.2.1 hk (k := c) (by omega)) hx
    have qp := q_partOf d A s h hk c x b (by omega) hx hb
    have qi := q_isIn (d + 3) e c s he (by omega)
    have hp16 := p16_b (c + 1).toNat (by omega)
    have ep : (16 : Int) ^ (c + 1).toNat = 16 ^ c.toNat * 16 := by rw [show (c + 1).toNat = c.toNat + 1 by omega, Int.pow_succ]
    have m1 : 0 ≤ p * (16 - A 0 0) := Int.mul_nonneg hp.1 (by omega)
    have m2 : p * (16 - A 0 0) ≤ p * 16 := Int.mul_le_mul_of_nonneg_left (by omega) hp.1
    have m3 : 0 ≤ p * A 0 0 := Int.mul_nonneg hp.1 (by omega)
    have m4 : p * A 0 0 ≤ p * 16 := Int.mul_le_mul_of_nonneg_left (by omega) hp.1
    rw [e_R_chance_69]
    by_cases cb : e / 2 ^ c.toNat % 2 = 1
    · have hi := ih (c + 1) (p * (16 - A 0 0)) (sm + pt A (A 9 c) x b) (by omega) (by omega) (by omega) (by omega) (fun p' sm' e1 e2 => hq p' sm' (by
        rw [half_ (by omega)] at e1
        rw [e1]
        show _ = (if e / 2 ^ c.toNat % 2 = 1 then _ else _)
        rw [if_pos cb]) e2)
      simp (disch := first | assumption | omega) only [rn, wk, al, wr_e, td_e, tm_e, mset_eq, mset_ne, if_pos, if_neg, Int.reduceAdd, Int.reduceSub, Int.reduceMul, Int.reduceNeg, Int.reduceLT, Int.reduceLE, Int.reduceEq, Int.cast_ofNat_Int, eq_self, and_true, true_and, ite_self, true_or, or_true, false_or, or_false, and_false, false_and, not_true_eq_false, not_false_eq_true, if_true, if_false, e_R_chance_0, e_R_chance_27, e_R_chance_33, e_R_chance_102, e_R_chance_109, e_R_chance_136, e_R_chance_137, e_R_chance_159, e_R_chance_160, e_R_chance_169, qi, qp, e0, wl_e]
      exact hi
    · have hi := ih (c + 1) (p * A 0 0) sm (by omega) (by omega) (by omega) (by omega) (fun p' sm' e1 e2 => hq p' sm' (by
        rw [half_ (by omega)] at e1
        rw [e1]
        show _ = (if e / 2 ^ c.toNat % 2 = 1 then _ else _)
        rw [if_neg cb]) e2)
      simp (disch := first | assumption | omega) only [rn, wk, al, wr_e, td_e, tm_e, mset_eq, mset_ne, if_pos, if_neg, Int.reduceAdd, Int.reduceSub, Int.reduceMul, Int.reduceNeg, Int.reduceLT, Int.reduceLE, Int.reduceEq, Int.cast_ofNat_Int, eq_self, and_true, true_and, ite_self, true_or, or_true, false_or, or_false, and_false, false_and, not_true_eq_false, not_false_eq_true, if_true, if_false, e_R_chance_0, e_R_chance_27, e_R_chance_33, e_R_chance_102, e_R_chance_109, e_R_chance_136, e_R_chance_137, e_R_chance_159, e_R_chance_160, e_R_chance_169, qi, e0, wl_e, Int.add_zero]
      exact hi
theorem lp_ch1 (d : Nat) (A s : Mem) (h : RB A s) (hk : RK A (s 138)) (x b k : Int) (hx : 0 ≤ x ∧ x < A 0 3) (hb : 0 ≤ b ∧ b ≤ 90) (Q : Int → Mem → Prop) : ∀ (n : Nat) (e it p sm c : Int), 0 ≤ e → e + n = 2 ^ (A 0 5).toNat → (0 ≤ it ∧ it ≤ 4294967296 * e) → (∀ e p sm c, EV (d + 4) o_R_chance 169 [] [137, x, b, k, A 0 5, it + sg (fun e => tq (fun k => pt A (A 9 k) x b) (A 0 0) k (A 0 5).toNat 0 e 1 0) (2 ^ (A 0 5).toNat - n) n, 0, e, p, 0, sm, c] s Q) → EV (d + 4) o_R_chance 51 [] [137, x, b, k, A 0 5, it, 0, e, p, 0, sm, c] s Q := by
  have h1 := h.1.1
  unfold VC at h1
  have e1 := ish_1 (n := A 0 5) (by omega)
  have p2 := p2_b (n := A 0 5) (by omega)
  intro n
  induction n with
  | zero =>
    intro e it p sm c h0 he hit hq
    have hq := hq e p sm c
    have : it + sg (fun e => tq (fun k => pt A (A 9 k) x b) (A 0 0) k (A 0 5).toNat 0 e 1 0) (2 ^ (A 0 5).toNat - ((0 : Nat) : Int)) 0 = it := Int.add_zero it
    rw [this] at hq
    rw [e_R_chance_51]
    simp (disch := first | assumption | omega) only [rn, wk, al, wr_e, td_e, tm_e, mset_eq, mset_ne, if_pos, if_neg, Int.reduceAdd, Int.reduceSub, Int.reduceMul, Int.reduceNeg, Int.reduceLT, Int.reduceLE, Int.reduceEq, Int.cast_ofNat_Int, eq_self, and_true, true_and, ite_self, true_or, or_true, false_or, or_false, and_false, false_and, not_true_eq_false, not_false_eq_true, if_true, if_false, e1]
    exact hq
  | succ n ih =>
    intro e it p sm c h0 he hit hq
    rw [e_R_chance_51]
    simp (disch := first | assumption | omega) only [rn, wk, al, wr_e, td_e, tm_e, mset_eq, mset_ne, if_pos, if_neg, Int.reduceAdd, Int.reduceSub, Int.reduceMul, Int.reduceNeg, Int.reduceLT, Int.reduceLE, Int.reduceEq, Int.cast_ofNat_Int, eq_self, and_true, true_and, ite_self, true_or, or_true, false_or, or_false, and_false, false_and, not_true_eq_false, not_false_eq_true, if_true, if_false, e1]
    refine lp_ch2 d A s h hk x b k it e hx hb (by omega) Q (A 0 5).toNat 0 1 0 (by omega) (by omega) ⟨by omega, by show (1 : Int) ≤ 16 ^ 0; decide⟩ (by omega) ?_
    intro p' sm' e2 e3
    have e4 : e / 2 ^ (0 : Int).toNat = e := by show e / 1 = e; omega
    rw [e4] at e2
    have step : ∀ it', it' = it + tq (fun k => pt A (A 9 k) x b) (A 0 0) k (A 0 5).toNat 0 e 1 0 → EV (d + 4) o_R_chance 51 [] [137, x, b, k, A 0 5, it', 0, e + 1, p', 0, sm', A 0 5] s Q := by
      intro it' hit'
      have hb1 : 0 ≤ tq (fun k => pt A (A 9 k) x b) (A 0 0) k (A 0 5).toNat 0 e 1 0 ∧ tq (fun k => pt A (A 9 k) x b) (A 0 0) k (A 0 5).toNat 0 e 1 0 ≤ 4294967296 := by
        rw [← e2]; split <;> omega
      refine ih (e + 1) it' p' sm' _ (by omega) (by omega) (by omega) ?_
      intro a1 a2 a3 a4
      have := hq a1 a2 a3 a4
      have e6 : (2 : Int) ^ (A 0 5).toNat - ((n + 1 : Nat) : Int) = e := by omega
      have e7 : (2 : Int) ^ (A 0 5).toNat - (n : Int) = e + 1 := by omega
      rw [e6] at this
      rw [e7, hit', Int.add_assoc]
      exact this
    by_cases c2 : k ≤ sm'
    · rw [if_pos c2] at e2
      have := step (it + p') (by rw [e2])
      simp (disch := first | assumption | omega) only [rn, wk, al, wr_e, td_e, tm_e, mset_eq, mset_ne, if_pos, if_neg, Int.reduceAdd, Int.reduceSub, Int.reduceMul, Int.reduceNeg, Int.reduceLT, Int.reduceLE, Int.reduceEq, Int.cast_ofNat_Int, eq_self, and_true, true_and, ite_self, true_or, or_true, false_or, or_false, and_false, false_and, not_true_eq_false, not_false_eq_true, if_true, if_false, e_R_chance_0, e_R_chance_27, e_R_chance_33, e_R_chance_102, e_R_chance_109, e_R_chance_136, e_R_chance_137, e_R_chance_146, e_R_chance_159, e_R_chance_160, wl_e]
      exact this
    · rw [if_neg c2] at e2
      have := step it (by rw [← e2, Int.add_zero])
      simp (disch := first | assumption | omega) only [rn, wk, al, wr_e, td_e, tm_e, mset_eq, mset_ne, if_pos, if_neg, Int.reduceAdd, Int.reduceSub, Int.reduceMul, Int.reduceNeg, Int.reduceLT, Int.reduceLE, Int.reduceEq, Int.cast_ofNat_Int, eq_self, and_true, true_and, ite_self, true_or, or_true, false_or, or_false, and_false, false_and, not_true_eq_false, not_false_eq_true, if_true, if_false, e_R_chance_0, e_R_chance_27, e_R_chance_33, e_R_chance_102, e_R_chance_109, e_R_chance_136, e_R_chance_137, e_R_chance_146, e_R_chance_159, e_R_chance_160, wl_e, Int.add_zero]
      exact this
theorem ak_chance (d : Nat) (x b k : Int) : Ak (d + 30) 188 352 [x, b, k] := by
  apply ak_of; intro s hi
  have hc := inv_c hi
  have hr := inv_rc hi
  have hv := VB_of (inv_va hi)
  have hk := vKs_of hi.2.2.2.2.1
  by_cases c1 : (0 ≤ x ∧ x < s 37 3) ∧ (0 ≤ b ∧ b ≤ 90) ∧ 0 ≤ k ∧ k ≤ 999
  · have e5 : win s 37 0 5 = s 37 5 := rfl
    obtain ⟨n, hn⟩ : ∃ n : Nat, (n : Int) = s 37 5 := ⟨(s 37 5).toNat, by omega⟩
    have hn' : (s 37 5).toNat = n := by omega
    have qw := q_weight (d + 25) (win s 37) s rfl hv hk x b k c1.1 c1.2.1 n (by rw [e5]; exact hn')
    have wb := wt_b (F := fun k => pt (win s 37) (win s 37 9 k) x b) (o := win s 37 0 0) hc.1 n 0 k
    have p16 := p16_b n (by omega)
    have q16 := q_sixteens (d + 28) (s 37 5) s (by omega)
    rw [hn'] at q16
    have qt := q_tell (d + 27) s (wt (fun k => pt (win s 37) (win s 37 9 k) x b) (win s 37 0 0) n 0 k) (16 ^ n) (by omega) (by omega)
    apply c_M_chance
    simp (disch := first | assumption | omega) only [rn, wk, al, wr_e, td_e, tm_e, mset_eq, mset_ne, if_pos, if_neg, Int.reduceAdd, Int.reduceSub, Int.reduceMul, Int.reduceNeg, Int.reduceLT, Int.reduceLE, Int.reduceEq, Int.cast_ofNat_Int, eq_self, and_true, true_and, ite_self, true_or, or_true, false_or, or_false, and_false, false_and, not_true_eq_false, not_false_eq_true, if_true, if_false, e_M_chance_0, e_M_chance_29, e_M_chance_35, q_hasSlate, q_isBeat, qw, q16, qt, q_grant]
    apply c_R_chance
    simp (disch := first | assumption | omega) only [rn, wk, al, wr_e, td_e, tm_e, mset_eq, mset_ne, if_pos, if_neg, Int.reduceAdd, Int.reduceSub, Int.reduceMul, Int.reduceNeg, Int.reduceLT, Int.reduceLE, Int.reduceEq, Int.cast_ofNat_Int, eq_self, and_true, true_and, ite_self, true_or, or_true, false_or, or_false, and_false, false_and, not_true_eq_false, not_false_eq_true, if_true, if_false, e_R_chance_0, e_R_chance_27, e_R_chance_102, e_R_chance_109, e_R_chance_136, e_R_chance_137, e_R_chance_146, e_R_chance_159, e_R_chance_160, e_R_chance_169, q_isSlate, q_RisBeat, q_isFrom]
    rw [e_R_chance_33]
    simp (disch := first | assumption | omega) only [rn, wk, al, wr_e, td_e, tm_e, mset_eq, mset_ne, if_pos, if_neg, Int.reduceAdd, Int.reduceSub, Int.reduceMul, Int.reduceNeg, Int.reduceLT, Int.reduceLE, Int.reduceEq, Int.cast_ofNat_Int, eq_self, and_true, true_and, ite_self, true_or, or_true, false_or, or_false, and_false, false_and, not_true_eq_false, not_false_eq_true, if_true, if_false]
    refine EV_call (CV_mono (far_nf hi _ (t := mset (mset (mset s 0 1 _) 0 2 _) 0 0 0) (by rw [mset_nc (by omega), mset_nc (by omega), mset_nc (by omega)])) ?_)
    rintro r u ⟨u1, u2⟩
    have e138 : u 138 = s 138 := by funext i; rw [u1 _ _ (by omega), mset_ne (by omega), mset_ne (by omega), mset_ne (by omega)]
    have hH := hi.2.2.2.2.1
    have hR : RB (win s 37) u := ⟨hv, by rw [e138]; exact hH.2.1, by rw [e138]; exact hH.2.2.2.1, by rw [e138]; exact hH.2.2.2.2.1, u2⟩
    have g4 : u 138 4 = s 37 5 := by rw [e138]; omega
    simp (disch := first | assumption | omega) only [rn, wk, al, wr_e, td_e, tm_e, mset_eq, mset_ne, if_pos, if_neg, Int.reduceAdd, Int.reduceSub, Int.reduceMul, Int.reduceNeg, Int.reduceLT, Int.reduceLE, Int.reduceEq, Int.cast_ofNat_Int, eq_self, and_true, true_and, ite_self, true_or, or_true, false_or, or_false, and_false, false_and, not_true_eq_false, not_false_eq_true, if_true, if_false, g4]
    refine lp_ch1 _ (win s 37) u hR (by rw [e138]; exact hH.2.2.2.2.2.1) x b k c1.1 c1.2.1 _ (2 ^ n) 0 0 0 0 0 (by omega) (by rw [e5, hn']; push_cast; omega) (by omega) ?_
    intro a1 a2 a3 a4
    have es := tq_sum (fun k => pt (win s 37) (win s 37 9 k) x b) (win s 37 0 0) k n 0 1 0
    have e0' : (2 : Int) ^ n - ((2 ^ n : Nat) : Int) = 0 := by push_cast; omega
    rw [e5, hn', e0', es, Int.one_mul, Int.zero_add, Int.sub_zero]
    have qt2 := q_tellsBy (d + 27) u (wt (fun k => pt (win s 37) (win s 37 9 k) x b) (win s 37 0 0) n 0 k) (16 ^ n) (by omega) (by omega)
    have l1 := lsh_1 (n := s 37 5) (by omega)
    rw [hn'] at l1
    rw [e_R_chance_169]
    simp (disch := first | assumption | omega) only [rn, wk, al, wr_e, td_e, tm_e, mset_eq, mset_ne, if_pos, if_neg, Int.reduceAdd, Int.reduceSub, Int.reduceMul, Int.reduceNeg, Int.reduceLT, Int.reduceLE, Int.reduceEq, Int.cast_ofNat_Int, eq_self, and_true, true_and, ite_self, true_or, or_true, false_or, or_false, and_false, false_and, not_true_eq_false, not_false_eq_true, if_true, if_false, l1, qt2]
    exact inv_tell _ _ hi (Fx_refl s 2) rfl (fun c i a b e => u1 c i b)
  · have hm : CV (d + 30) 352 [137, x, b, k] (mset s 0 0 1) fun r' u => r' = 0 ∧ Inv u := by
      apply c_R_chance
      simp (disch := first | assumption | omega) only [rn, wk, al, wr_e, td_e, tm_e, mset_eq, mset_ne, if_pos, if_neg, Int.reduceAdd, Int.reduceSub, Int.reduceMul, Int.reduceNeg, Int.reduceLT, Int.reduceLE, Int.reduceEq, Int.cast_ofNat_Int, eq_self, and_true, true_and, ite_self, true_or, or_true, false_or, or_false, and_false, false_and, not_true_eq_false, not_false_eq_true, if_true, if_false, e_R_chance_0, e_R_chance_27, e_R_chance_33, e_R_chance_102, e_R_chance_109, e_R_chance_136, e_R_chance_137, e_R_chance_146, e_R_chance_159, e_R_chance_160, e_R_chance_169, q_isSlate, q_RisBeat, q_isFrom, q_is]
      repeat' split
      all_goals first | exact inv_st 1 hi | omega
    apply c_M_chance
    simp (disch := first | assumption | omega) only [rn, wk, al, wr_e, td_e, tm_e, mset_eq, mset_ne, if_pos, if_neg, Int.reduceAdd, Int.reduceSub, Int.reduceMul, Int.reduceNeg, Int.reduceLT, Int.reduceLE, Int.reduceEq, Int.cast_ofNat_Int, eq_self, and_true, true_and, ite_self, true_or, or_true, false_or, or_false, and_false, false_and, not_true_eq_false, not_false_eq_true, if_true, if_false, e_M_chance_0, e_M_chance_29, e_M_chance_35, q_hasSlate, q_isBeat, q_deny]
    repeat' split
    all_goals first | exact hm | omega
