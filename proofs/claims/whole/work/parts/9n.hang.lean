/-! ===== H2: hanging ===== -/
def bc (e : Int) : Int := e % 2 + e / 2 % 2 + e / 4 % 2 + e / 8 % 2 + e / 16 % 2 + e / 32 % 2 + e / 64 % 2
def bcx5 (x : Int) : Int := iand_ (wr (x + iushr_ x 16)) 63
def bcx4 (x : Int) : Int := bcx5 (wr (x + iushr_ x 8))
def bcx3 (x : Int) : Int := bcx4 (iand_ (wr (x + iushr_ x 4)) 252645135)
def bcx2 (x : Int) : Int := bcx3 (wr (iand_ x 858993459 + iand_ (iushr_ x 2) 858993459))
def bcx (x : Int) : Int := bcx2 (wr (x - iand_ (iushr_ x 1) 1431655765))
theorem bc_tab : ∀ a : Fin 128, bcx (a.val : Int) = bc (a.val : Int) := by decide +kernel
theorem q_bitCount (d : Nat) (e : Int) (s : Mem) (he : 0 ≤ e ∧ e < 128) : sem (d + 1) 186 [e] s = some (bc e, s) := by
  obtain ⟨a, rfl⟩ : ∃ a : Nat, e = a := ⟨e.toNat, by omega⟩
  have h := bc_tab ⟨a, by omega⟩
  apply CV_eq; apply c_Integer_bitCount
  simp only [e_Integer_bitCount_0, rn, wk]
  exact ⟨h, trivial⟩
theorem lw_tab : ∀ a : Fin 128, a.val ≠ 0 → 0 ≤ iand_ (a.val : Int) ((a.val : Int) - 1) ∧ iand_ (a.val : Int) ((a.val : Int) - 1) < a.val ∧ bc (iand_ (a.val : Int) ((a.val : Int) - 1)) = bc (a.val : Int) - 1 := by decide +kernel
theorem q_bits (d : Nat) (s : Mem) : ∀ (m : Nat) (e n : Int), 0 ≤ e → e < m → e < 128 → 0 ≤ n ∧ n ≤ 1000 - m → ∀ x0 (Q : Int → Mem → Prop), Q (n + bc e) s → EV d o_R_bits 4 [] [x0, n, e] s Q := by
  intro m
  induction m with
  | zero => intro e n h0 h1; omega
  | succ m ih =>
    intro e n h0 h1 h2 hn x0 Q hq
    rw [e_R_bits_4]
    by_cases c : e = 0
    · subst c
      have : bc 0 = 0 := rfl
      rw [this, Int.add_zero] at hq
      simp (disch := first | assumption | omega) only [rn, wk, al, wr_e, td_e, tm_e, mset_eq, mset_ne, if_pos, if_neg, Int.reduceAdd, Int.reduceSub, Int.reduceMul, Int.reduceNeg, Int.reduceLT, Int.reduceLE, Int.reduceEq, Int.cast_ofNat_Int, eq_self, and_true, true_and, ite_self, true_or, or_true, false_or, or_false, and_false, false_and, not_true_eq_false, not_false_eq_true, if_true, if_false, e_R_bits_0, e_R_bits_20]
      exact hq
    · obtain ⟨a, rfl⟩ : ∃ a : Nat, e = a := ⟨e.toNat, by omega⟩
      obtain ⟨t1, t2, t3⟩ := lw_tab ⟨a, by omega⟩ (by show a ≠ 0; omega)
      have t1 : 0 ≤ iand_ (a : Int) ((a : Int) - 1) := t1
      have t2 : iand_ (a : Int) ((a : Int) - 1) < (a : Int) := t2
      simp (disch := first | assumption | omega) only [rn, wk, al, wr_e, td_e, tm_e, mset_eq, mset_ne, if_pos, if_neg, Int.reduceAdd, Int.reduceSub, Int.reduceMul, Int.reduceNeg, Int.reduceLT, Int.reduceLE, Int.reduceEq, Int.cast_ofNat_Int, eq_self, and_true, true_and, ite_self, true_or, or_true, false_or, or_false, and_false, false_and, not_true_eq_false, not_false_eq_true, if_true, if_false, e_R_bits_0, e_R_bits_20]
      refine ih (iand_ (a : Int) ((a : Int) - 1)) (n + 1) t1 (by omega) (by omega) (by omega) x0 Q ?_
      have t3 : bc (iand_ (a : Int) ((a : Int) - 1)) = bc (a : Int) - 1 := t3
      rw [t3, show n + 1 + (bc (a : Int) - 1) = n + bc (a : Int) by omega]
      exact hq
theorem q_Rbits (d : Nat) (e : Int) (s : Mem) (he : 0 ≤ e ∧ e < 128) : sem (d + 1) 350 [e] s = some (bc e, s) := by
  apply CV_eq; apply c_R_bits
  simp (disch := first | assumption | omega) only [rn, wk, al, wr_e, td_e, tm_e, mset_eq, mset_ne, if_pos, if_neg, Int.reduceAdd, Int.reduceSub, Int.reduceMul, Int.reduceNeg, Int.reduceLT, Int.reduceLE, Int.reduceEq, Int.cast_ofNat_Int, eq_self, and_true, true_and, ite_self, true_or, or_true, false_or, or_false, and_false, false_and, not_true_eq_false, not_false_eq_true, if_true, if_false, e_R_bits_0, e_R_bits_20]
  exact q_bits d s 128 e 0 he.1 he.2 he.2 (by omega) e _ ⟨by rw [Int.zero_add], rfl⟩
def ny (e : Int) : Int := iand_ (ixor_ e (-1)) (e - 1)
theorem nt_tab : ∀ a : Fin 128, a.val ≠ 0 → ∃ t : Fin 7, ny (a.val : Int) = (2 ^ t.val - 1 : Int) ∧ (a.val / 2 ^ t.val % 2 = 1) ∧ iand_ (a.val : Int) ((a.val : Int) - 1) + 2 ^ t.val = (a.val : Int) ∧ ∀ p : Fin 7, (a.val : Int) / 2 ^ p.val % 2 = 1 ↔ (p = t ∨ iand_ (a.val : Int) ((a.val : Int) - 1) / 2 ^ p.val % 2 = 1) := by decide +kernel
theorem nt_ {e : Int} (he : 0 < e ∧ e < 128) : ∃ t : Int, (0 ≤ t ∧ t < 7) ∧ ny e = 2 ^ t.toNat - 1 ∧ e / 2 ^ t.toNat % 2 = 1 ∧ iand_ e (e - 1) + 2 ^ t.toNat = e ∧ ∀ p, 0 ≤ p ∧ p < 7 → (e / 2 ^ p.toNat % 2 = 1 ↔ (p = t ∨ iand_ e (e - 1) / 2 ^ p.toNat % 2 = 1)) := by
  obtain ⟨a, rfl⟩ : ∃ a : Nat, e = a := ⟨e.toNat, by omega⟩
  obtain ⟨t, h1, h2, h3, h4⟩ := nt_tab ⟨a, by omega⟩ (by show a ≠ 0; omega)
  refine ⟨(t.val : Int), by have := t.isLt; omega, ?_, ?_, ?_, ?_⟩
  · rw [show ((t.val : Int)).toNat = t.val by omega]; exact h1
  · rw [show ((t.val : Int)).toNat = t.val by omega]
    have : ((a / 2 ^ t.val % 2 : Nat) : Int) = 1 := by
      have h2 : a / 2 ^ t.val % 2 = 1 := h2
      rw [h2]; rfl
    push_cast at this
    exact this
  · rw [show ((t.val : Int)).toNat = t.val by omega]; exact h3
  · intro p hp
    have := h4 ⟨p.toNat, by omega⟩
    rw [show (p = (t.val : Int)) ↔ ((⟨p.toNat, by omega⟩ : Fin 7) = t) from ⟨fun h => Fin.ext (by show p.toNat = t.val; omega), fun h => by have := congrArg Fin.val h; have : p.toNat = t.val := this; omega⟩]
    exact this
theorem q_ntz (d : Nat) (e t : Int) (s : Mem) (he : 0 < e ∧ e < 128) (ht : 0 ≤ t ∧ t < 7) (hn : ny e = 2 ^ t.toNat - 1) : sem (d + 1) 185 [e] s = some (t, s) := by
  apply CV_eq; apply c_Integer_numberOfTrailingZeros
  unfold ny at hn
  have u1 : iand_ 0 32 = 0 := by decide
  have u2 : iushr_ 63 4 = 3 := by decide
  have u3 : iushr_ 3 1 = 1 := by decide
  have u4 : iushr_ 31 4 = 1 := by decide
  have u5 : iushr_ 1 1 = 0 := by decide
  have u6 : iushr_ 15 2 = 3 := by decide
  have u7 : iushr_ 7 2 = 1 := by decide
  have ew : wr (e - 1) = e - 1 := wr_e (by omega) (by omega)
  obtain rfl | rfl | rfl | rfl | rfl | rfl | rfl : t = 0 ∨ t = 1 ∨ t = 2 ∨ t = 3 ∨ t = 4 ∨ t = 5 ∨ t = 6 := by omega
  · have hn : iand_ (ixor_ e (-1)) (e - 1) = 0 := hn
    simp (disch := first | assumption | omega) only [rn, wk, al, wr_e, td_e, tm_e, mset_eq, mset_ne, if_pos, if_neg, Int.reduceAdd, Int.reduceSub, Int.reduceMul, Int.reduceNeg, Int.reduceLT, Int.reduceLE, Int.reduceEq, Int.cast_ofNat_Int, eq_self, and_true, true_and, ite_self, true_or, or_true, false_or, or_false, and_false, false_and, not_true_eq_false, not_false_eq_true, if_true, if_false, e_Integer_numberOfTrailingZeros_0, e_Integer_numberOfTrailingZeros_17, e_Integer_numberOfTrailingZeros_34, e_Integer_numberOfTrailingZeros_49, e_Integer_numberOfTrailingZeros_62, e_Integer_numberOfTrailingZeros_74, ew, hn, u1]
  · have hn : iand_ (ixor_ e (-1)) (e - 1) = 1 := hn
    simp (disch := first | assumption | omega) only [rn, wk, al, wr_e, td_e, tm_e, mset_eq, mset_ne, if_pos, if_neg, Int.reduceAdd, Int.reduceSub, Int.reduceMul, Int.reduceNeg, Int.reduceLT, Int.reduceLE, Int.reduceEq, Int.cast_ofNat_Int, eq_self, and_true, true_and, ite_self, true_or, or_true, false_or, or_false, and_false, false_and, not_true_eq_false, not_false_eq_true, if_true, if_false, e_Integer_numberOfTrailingZeros_0, e_Integer_numberOfTrailingZeros_17, e_Integer_numberOfTrailingZeros_34, e_Integer_numberOfTrailingZeros_49, e_Integer_numberOfTrailingZeros_62, e_Integer_numberOfTrailingZeros_74, ew, hn, u5]
  · have hn : iand_ (ixor_ e (-1)) (e - 1) = 3 := hn
    simp (disch := first | assumption | omega) only [rn, wk, al, wr_e, td_e, tm_e, mset_eq, mset_ne, if_pos, if_neg, Int.reduceAdd, Int.reduceSub, Int.reduceMul, Int.reduceNeg, Int.reduceLT, Int.reduceLE, Int.reduceEq, Int.cast_ofNat_Int, eq_self, and_true, true_and, ite_self, true_or, or_true, false_or, or_false, and_false, false_and, not_true_eq_false, not_false_eq_true, if_true, if_false, e_Integer_numberOfTrailingZeros_0, e_Integer_numberOfTrailingZeros_17, e_Integer_numberOfTrailingZeros_34, e_Integer_numberOfTrailingZeros_49, e_Integer_numberOfTrailingZeros_62, e_Integer_numberOfTrailingZeros_74, ew, hn, u3]
  · have hn : iand_ (ixor_ e (-1)) (e - 1) = 7 := hn
    simp (disch := first | assumption | omega) only [rn, wk, al, wr_e, td_e, tm_e, mset_eq, mset_ne, if_pos, if_neg, Int.reduceAdd, Int.reduceSub, Int.reduceMul, Int.reduceNeg, Int.reduceLT, Int.reduceLE, Int.reduceEq, Int.cast_ofNat_Int, eq_self, and_true, true_and, ite_self, true_or, or_true, false_or, or_false, and_false, false_and, not_true_eq_false, not_false_eq_true, if_true, if_false, e_Integer_numberOfTrailingZeros_0, e_Integer_numberOfTrailingZeros_17, e_Integer_numberOfTrailingZeros_34, e_Integer_numberOfTrailingZeros_49, e_Integer_numberOfTrailingZeros_62, e_Integer_numberOfTrailingZeros_74, ew, hn, u7, u5]
  · have hn : iand_ (ixor_ e (-1)) (e - 1) = 15 := hn
    simp (disch := first | assumption | omega) only [rn, wk, al, wr_e, td_e, tm_e, mset_eq, mset_ne, if_pos, if_neg, Int.reduceAdd, Int.reduceSub, Int.reduceMul, Int.reduceNeg, Int.reduceLT, Int.reduceLE, Int.reduceEq, Int.cast_ofNat_Int, eq_self, and_true, true_and, ite_self, true_or, or_true, false_or, or_false, and_false, false_and, not_true_eq_false, not_false_eq_true, if_true, if_false, e_Integer_numberOfTrailingZeros_0, e_Integer_numberOfTrailingZeros_17, e_Integer_numberOfTrailingZeros_34, e_Integer_numberOfTrailingZeros_49, e_Integer_numberOfTrailingZeros_62, e_Integer_numberOfTrailingZeros_74, ew, hn, u6, u3]
  · have hn : iand_ (ixor_ e (-1)) (e - 1) = 31 := hn
    simp (disch := first | assumption | omega) only [rn, wk, al, wr_e, td_e, tm_e, mset_eq, mset_ne, if_pos, if_neg, Int.reduceAdd, Int.reduceSub, Int.reduceMul, Int.reduceNeg, Int.reduceLT, Int.reduceLE, Int.reduceEq, Int.cast_ofNat_Int, eq_self, and_true, true_and, ite_self, true_or, or_true, false_or, or_false, and_false, false_and, not_true_eq_false, not_false_eq_true, if_true, if_false, e_Integer_numberOfTrailingZeros_0, e_Integer_numberOfTrailingZeros_17, e_Integer_numberOfTrailingZeros_34, e_Integer_numberOfTrailingZeros_49, e_Integer_numberOfTrailingZeros_62, e_Integer_numberOfTrailingZeros_74, ew, hn, u4, u5]
  · have hn : iand_ (ixor_ e (-1)) (e - 1) = 63 := hn
    simp (disch := first | assumption | omega) only [rn, wk, al, wr_e, td_e, tm_e, mset_eq, mset_ne, if_pos, if_neg, Int.reduceAdd, Int.reduceSub, Int.reduceMul, Int.reduceNeg, Int.reduceLT, Int.reduceLE, Int.reduceEq, Int.cast_ofNat_Int, eq_self, and_true, true_and, ite_self, true_or, or_true, false_or, or_false, and_false, false_and, not_true_eq_false, not_false_eq_true, if_true, if_false, e_Integer_numberOfTrailingZeros_0, e_Integer_numberOfTrailingZeros_17, e_Integer_numberOfTrailingZeros_34, e_Integer_numberOfTrailingZeros_49, e_Integer_numberOfTrailingZeros_62, e_Integer_numberOfTrailingZeros_74, ew, hn, u2, u3]
/-- all but the cells 34 to 36 is as it was -/
def Fm (s u : Mem) : Prop := ∀ c i, c ≠ 34 → c ≠ 35 → c ≠ 36 → u c i = s c i
theorem lp_mu2 (d : Nat) (A s : Mem) (hv : VB A) (a b : Int) (ha : vQ A a) (hb : vQ A b) (Q : Int → Mem → Prop) (hQ : ∀ u, Fm s u → (∀ e, 0 ≤ e ∧ e < 2 ^ (A 0 1).toNat → (pa A e a b → u 36 e = 1) ∧ (¬ pa A e a b → u 36 e = s 36 e)) → Q 0 u) : ∀ (n : Nat) (e : Int) (u : Mem) (z : Int), 0 < e → e + n = 2 ^ (A 0 1).toNat → Fm s u → (∀ p, 0 ≤ p ∧ p < A 0 1 → u 34 p = lc A a b p) → (∀ e', 0 ≤ e' ∧ e' < e → enc (u 35 e') (Gs A a b e' 7)) → (∀ e', 0 ≤ e' ∧ e' < e → (pa A e' a b → u 36 e' = 1) ∧ (¬ pa A e' a b → u 36 e' = s 36 e')) → (∀ e', e ≤ e' → u 36 e' = s 36 e') → EV (d + 1) o_Parting_markUnparted 51 [] [31, a, b, 2 ^ (A 0 1).toNat, e, z] u Q := by
  have h1 := hv.1
  unfold VC at h1
  have p2 := p128 (n := A 0 1) (by omega)
  intro n
  induction n with
  | zero =>
    intro e u z h0 he hf h34 h35 h36 h36'
    rw [e_Parting_markUnparted_51]
    simp (disch := first | assumption | omega) only [rn, wk, al, wr_e, td_e, tm_e, mset_eq, mset_ne, if_pos, if_neg, Int.reduceAdd, Int.reduceSub, Int.reduceMul, Int.reduceNeg, Int.reduceLT, Int.reduceLE, Int.reduceEq, Int.cast_ofNat_Int, eq_self, and_true, true_and, ite_self, true_or, or_true, false_or, or_false, and_false, false_and, not_true_eq_false, not_false_eq_true, if_true, if_false, e_Parting_markUnparted_0, e_Parting_markUnparted_48, e_Parting_markUnparted_114, e_Parting_markUnparted_120]
    exact hQ u hf (fun e' he' => h36 e' (by omega))
  | succ n ih =>
    intro e u z h0 he hf h34 h35 h36 h36'
    obtain ⟨t, t1, t2, t3, t4, t5⟩ := nt_ (e := e) (by omega)
    have qn := q_ntz d e t u (by omega) t1 t2
    have ht : t < A 0 1 := by
      by_cases x : t < A 0 1
      · exact x
      · exfalso
        have hle : (2 : Int) ^ (A 0 1).toNat ≤ 2 ^ t.toNat := by
          have y1 : A 0 1 = 0 ∨ A 0 1 = 1 ∨ A 0 1 = 2 ∨ A 0 1 = 3 ∨ A 0 1 = 4 ∨ A 0 1 = 5 ∨ A 0 1 = 6 := by omega
          have y2 : t = 0 ∨ t = 1 ∨ t = 2 ∨ t = 3 ∨ t = 4 ∨ t = 5 ∨ t = 6 := by omega
          rcases y1 with y | y | y | y | y | y | y <;> rcases y2 with z | z | z | z | z | z | z <;> rw [y, z] <;> first | decide | omega
        rw [Int.ediv_eq_zero_of_lt (by omega) (by omega)] at t3
        omega
    have p2t := p128 (n := t) (by omega)
    have hlow : 0 ≤ iand_ e (e - 1) := by
      obtain ⟨x, rfl⟩ : ∃ x : Nat, e = x := ⟨e.toNat, by omega⟩
      exact (lw_tab ⟨x, by omega⟩ (by show x ≠ 0; omega)).1
    have g34 := h34 t ⟨t1.1, ht⟩
    have he1 : enc (bo (u 35 (iand_ e (e - 1))) (lc A a b t)) (Gs A a b e 7) := by
      refine enc_congr ?_ (bo_enc (h35 (iand_ e (e - 1)) (by omega)) (lc_enc hv ha hb ⟨t1.1, ht⟩))
      intro L hL
      constructor
      · rintro ⟨x, y⟩ p hp hb'
        rcases (t5 p ⟨hp.1, hp.2.2⟩).mp hb' with q | q
        · subst q; exact y
        · exact x p hp q
      · intro x
        exact ⟨fun p hp hb' => x p hp ((t5 p ⟨hp.1, hp.2.2⟩).mpr (Or.inr hb')), x t ⟨t1.1, ht, t1.2⟩ t3⟩
    have hpa := (enc_pa he1).1
    rw [e_Parting_markUnparted_51]
    by_cases c : bo (u 35 (iand_ e (e - 1))) (lc A a b t) = 1000
    · simp (disch := first | assumption | omega) only [rn, wk, al, wr_e, td_e, tm_e, mset_eq, mset_ne, if_pos, if_neg, Int.reduceAdd, Int.reduceSub, Int.reduceMul, Int.reduceNeg, Int.reduceLT, Int.reduceLE, Int.reduceEq, Int.cast_ofNat_Int, eq_self, and_true, true_and, ite_self, true_or, or_true, false_or, or_false, and_false, false_and, not_true_eq_false, not_false_eq_true, if_true, if_false, e_Parting_markUnparted_0, e_Parting_markUnparted_48, e_Parting_markUnparted_114, e_Parting_markUnparted_120, qn, q_both, g34]
      refine ih (e + 1) _ _ (by omega) (by omega) ?_ ?_ ?_ ?_ ?_
      · intro c i x y z; rw [mset_ne (by omega)]; exact hf c i x y z
      · intro p hp; rw [mset_ne (by omega)]; exact h34 p hp
      · intro e' he'
        by_cases ee : e' = e
        · subst ee; rw [mset_eq rfl rfl]; exact he1
        · rw [mset_ne (by omega)]; exact h35 e' (by omega)
      · intro e' he'
        rw [mset_ne (by omega)]
        by_cases ee : e' = e
        · subst ee
          exact ⟨fun x => absurd x (hpa.mp c), fun _ => h36' e' (by omega)⟩
        · exact h36 e' (by omega)
      · intro e' he'
        rw [mset_ne (by omega)]; exact h36' e' (by omega)
    · simp (disch := first | assumption | omega) only [rn, wk, al, wr_e, td_e, tm_e, mset_eq, mset_ne, if_pos, if_neg, Int.reduceAdd, Int.reduceSub, Int.reduceMul, Int.reduceNeg, Int.reduceLT, Int.reduceLE, Int.reduceEq, Int.cast_ofNat_Int, eq_self, and_true, true_and, ite_self, true_or, or_true, false_or, or_false, and_false, false_and, not_true_eq_false, not_false_eq_true, if_true, if_false, e_Parting_markUnparted_0, e_Parting_markUnparted_48, e_Parting_markUnparted_114, e_Parting_markUnparted_120, qn, q_both, g34]
      refine ih (e + 1) _ _ (by omega) (by omega) ?_ ?_ ?_ ?_ ?_
      · intro c i x y z; rw [mset_ne (by omega), mset_ne (by omega)]; exact hf c i x y z
      · intro p hp; rw [mset_ne (by omega), mset_ne (by omega)]; exact h34 p hp
      · intro e' he'
        rw [mset_ne (by omega)]
        by_cases ee : e' = e
        · subst ee; rw [mset_eq rfl rfl]; exact he1
        · rw [mset_ne (by omega)]; exact h35 e' (by omega)
      · intro e' he'
        by_cases ee : e' = e
        · subst ee
          rw [mset_eq rfl rfl]
          exact ⟨fun _ => rfl, fun x => absurd (hpa.mpr x) c⟩
        · rw [mset_ne (by omega), mset_ne (by omega)]; exact h36 e' (by omega)
      · intro e' he'
        rw [mset_ne (by omega), mset_ne (by omega)]; exact h36' e' (by omega)
theorem lp_mu1 (d : Nat) (A s : Mem) (hv : VB A) (a b : Int) (ha : vQ A a) (hb : vQ A b) (hfl : ∀ q p, vQ A q → 0 ≤ p ∧ p < A 0 1 → fld A s q p) (Q : Int → Mem → Prop) (hQ : ∀ u, Fm s u → (∀ e, 0 ≤ e ∧ e < 2 ^ (A 0 1).toNat → (pa A e a b → u 36 e = 1) ∧ (¬ pa A e a b → u 36 e = s 36 e)) → Q 0 u) : ∀ (n : Nat) (p : Int) (u : Mem), 0 ≤ p → p + n = A 0 1 → Fm s u → (∀ p', 0 ≤ p' ∧ p' < p → u 34 p' = lc A a b p') → u 35 0 = 1001 → u 36 0 = 1 → (∀ e', 1 ≤ e' → u 36 e' = s 36 e') → EV (d + 1) o_Parting_markUnparted 19 [] [31, a, b, 2 ^ (A 0 1).toNat, p, 0] u Q := by
  have h1 := hv.1
  unfold VC at h1
  have p2 := p128 (n := A 0 1) (by omega)
  have g0 : enc 1001 (Gs A a b 0 7) := Or.inl ⟨rfl, fun L hL p hp hb => by
    rw [Int.zero_ediv] at hb; omega⟩
  have hpa0 : pa A 0 a b := ⟨0, by omega, fun p hp hb => by rw [Int.zero_ediv] at hb; omega⟩
  intro n
  induction n with
  | zero =>
    intro p u h0 hp hf h34 h35 h36 h36'
    have ep : p = A 0 1 := by omega
    have es := ish_1 (n := p) (by omega)
    have hle : (2 : Int) ^ (A 0 1).toNat ≤ 2 ^ p.toNat := by rw [ep]; omega
    rw [e_Parting_markUnparted_19]
    simp (disch := first | assumption | omega) only [rn, wk, al, wr_e, td_e, tm_e, mset_eq, mset_ne, if_pos, if_neg, Int.reduceAdd, Int.reduceSub, Int.reduceMul, Int.reduceNeg, Int.reduceLT, Int.reduceLE, Int.reduceEq, Int.cast_ofNat_Int, eq_self, and_true, true_and, ite_self, true_or, or_true, false_or, or_false, and_false, false_and, not_true_eq_false, not_false_eq_true, if_true, if_false, e_Parting_markUnparted_0, e_Parting_markUnparted_48, e_Parting_markUnparted_114, e_Parting_markUnparted_120, es]
    refine lp_mu2 d A s hv a b ha hb Q hQ ((2 : Int) ^ (A 0 1).toNat - 1).toNat 1 u 0 (by omega) (by omega) hf (fun p' hp' => h34 p' (by omega)) ?_ ?_ h36'
    · intro e' he'
      have : e' = 0 := by omega
      subst this
      rw [h35]; exact g0
    · intro e' he'
      have : e' = 0 := by omega
      subst this
      exact ⟨fun _ => h36, fun x => absurd hpa0 x⟩
  | succ n ih =>
    intro p u h0 hp hf h34 h35 h36 h36'
    have es := ish_1 (n := p) (by omega)
    have hlt : ¬ (2 : Int) ^ (A 0 1).toNat ≤ 2 ^ p.toNat := by
      have y1 : A 0 1 = 1 ∨ A 0 1 = 2 ∨ A 0 1 = 3 ∨ A 0 1 = 4 ∨ A 0 1 = 5 ∨ A 0 1 = 6 ∨ A 0 1 = 7 := by omega
      have y2 : p = 0 ∨ p = 1 ∨ p = 2 ∨ p = 3 ∨ p = 4 ∨ p = 5 ∨ p = 6 := by omega
      rcases y1 with y | y | y | y | y | y | y <;> rcases y2 with z | z | z | z | z | z | z <;> rw [y, z] <;> first | decide | omega
    have hp' : 0 ≤ p ∧ p < A 0 1 := by omega
    have fl : ∀ q, vQ A q → fld A u q p := fun q hq => by
      have := hfl q p hq hp'
      unfold fld at this ⊢
      rw [hf _ _ (by omega) (by omega) (by omega), hf _ _ (by omega) (by omega) (by omega)]; exact this
    have ql := q_laterAt d A u hv a b p ha hb hp' (fl a ha) (fl b hb)
    rw [e_Parting_markUnparted_19]
    simp (disch := first | assumption | omega) only [rn, wk, al, wr_e, td_e, tm_e, mset_eq, mset_ne, if_pos, if_neg, Int.reduceAdd, Int.reduceSub, Int.reduceMul, Int.reduceNeg, Int.reduceLT, Int.reduceLE, Int.reduceEq, Int.cast_ofNat_Int, eq_self, and_true, true_and, ite_self, true_or, or_true, false_or, or_false, and_false, false_and, not_true_eq_false, not_false_eq_true, if_true, if_false, es, ql]
    refine ih (p + 1) _ (by omega) (by omega) ?_ ?_ ?_ ?_ ?_
    · intro c i x y z; rw [mset_ne (by omega)]; exact hf c i x y z
    · intro p' hp''
      by_cases e : p' = p
      · subst e; rw [mset_eq rfl rfl]
      · rw [mset_ne (by omega)]; exact h34 p' (by omega)
    · rw [mset_ne (by omega)]; exact h35
    · rw [mset_ne (by omega)]; exact h36
    · intro e' he'; rw [mset_ne (by omega)]; exact h36' e' he'
theorem q_markUnparted (d : Nat) (A s : Mem) (hv : VB A) (a b : Int) (ha : vQ A a) (hb : vQ A b) (hfl : ∀ q p, vQ A q → 0 ≤ p ∧ p < A 0 1 → fld A s q p) : CV (d + 2) 184 [31, a, b, 2 ^ (A 0 1).toNat] s fun _ u => Fm s u ∧ ∀ e, 0 ≤ e ∧ e < 2 ^ (A 0 1).toNat → (pa A e a b → u 36 e = 1) ∧ (¬ pa A e a b → u 36 e = s 36 e) := by
  have h1 := hv.1
  unfold VC at h1
  apply c_Parting_markUnparted
  simp (disch := first | assumption | omega) only [rn, wk, al, wr_e, td_e, tm_e, mset_eq, mset_ne, if_pos, if_neg, Int.reduceAdd, Int.reduceSub, Int.reduceMul, Int.reduceNeg, Int.reduceLT, Int.reduceLE, Int.reduceEq, Int.cast_ofNat_Int, eq_self, and_true, true_and, ite_self, true_or, or_true, false_or, or_false, and_false, false_and, not_true_eq_false, not_false_eq_true, if_true, if_false, e_Parting_markUnparted_0, e_Parting_markUnparted_48, e_Parting_markUnparted_114, e_Parting_markUnparted_120]
  refine lp_mu1 d A s hv a b ha hb hfl _ (fun u x y => ⟨x, y⟩) (A 0 1).toNat 0 _ (by omega) (by omega) ?_ (fun p hp => by omega) ?_ ?_ ?_
  · intro c i x y z; rw [mset_ne (by omega), mset_ne (by omega)]
  · rw [mset_ne (by omega), mset_eq rfl rfl]
  · rw [mset_eq rfl rfl]
  · intro e' he'; rw [mset_ne (by omega), mset_ne (by omega)]
