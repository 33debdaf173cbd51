/-! ===== H2: mornings, one step of both ===== -/
def FcM (s t : Mem) : Prop := ∀ c i, ¬ (c = 7 ∧ 3 ≤ i ∧ i ≤ 9) → ¬ (c = 10 ∧ i = 2) → c ≠ 11 → ¬ (69 ≤ c ∧ c ≤ 76) → t c i = s c i
def StP (D : Nat) (T : Int → Int) (n p : Int) (s : Mem) (r : Int) (t : Mem) : Prop := FcM s t ∧ ((r = 1 ∧ (t 7 8 = s 7 8 ∧ t 7 9 = s 7 9) ∧ ∃ p', p < p' ∧ Cs T n p' t ∧ ∀ u0 u, MI T n s u0 u p → CV (D + 8) 263 [137] u (OkM T n t u0 p')) ∨ (r = 0 ∧ 0 < t 7 8 ∧ ∀ u0 u, MI T n s u0 u p → CV (D + 8) 263 [137] u (NoM u0 (t 7 8) (t 7 9))))
/-- a token of kind 1 or more moves on -/
theorem tk_lt {T : Int → Int} {n p : Int} (hp : 0 ≤ p ∧ p ≤ n) (h : tkk T n p ≠ 0) : p < tke T n p := by
  obtain ⟨b1, b2, b3⟩ := tke_b (T := T) hp
  have hq : tkq T n p < n := by
    by_cases c : n ≤ tkq T n p
    · unfold tkk at h
      rw [if_pos c] at h; exact absurd rfl h
    · omega
  have := b3 hq
  omega
theorem no_tok {D : Nat} {T : Int → Int} {n p f : Int} {s : Mem} (hf : 0 < f) (ref : ∀ u0 u, MI T n s u0 u p → CV (D + 8) 263 [137] u (NoR u (flt T n p f) (tkq T n p))) : StP D T n p s 0 (mset (mset s 7 8 (flt T n p f)) 7 9 (tkq T n p)) := by
  refine ⟨fun c i h _ _ _ => by rw [mset_ne (by omega), mset_ne (by omega)], Or.inr ⟨rfl, by rw [mset_ne (by omega), mset_eq rfl rfl]; exact flt_p hf, fun u0 u hu => ?_⟩⟩
  rw [mset_ne (by omega), mset_eq rfl rfl, mset_eq rfl rfl]
  exact CV_mono (ref u0 u hu) (fun r w hw => NoM_of hu.2.2.1 hw)
/-- the class at the sign that closes a step -/
theorem x_118 (d D : Nat) {T : Int → Int} {n p p1 : Int} (hT : TX T n) {s t : Mem} (hc : Cs T n p1 t) (i z y : Int) (Q : Int → Mem → Prop) (hq : ∀ r t2, CkP T n p1 t (cOk T n p1) 2 r t2 → StP D T n p s r t2) (K1 : ∀ t y, StP D T n p s 1 t → EV (d + 6) o_MorningsReader_readInto 137 [] [10, 69, 37, i, z, y] t Q) (K0 : ∀ t, StP D T n p s 0 t → Q 0 t) : EV (d + 6) o_MorningsReader_readInto 118 [1] [10, 69, 37, i, z, y] t Q := by
  rw [e_MorningsReader_readInto_118]
  simp (disch := first | assumption | omega) only [rn, wk, al, wr_e, td_e, tm_e, mset_eq, mset_ne, if_pos, if_neg, Int.reduceAdd, Int.reduceSub, Int.reduceMul, Int.reduceNeg, Int.reduceLT, Int.reduceLE, Int.reduceEq, Int.cast_ofNat_Int, eq_self, and_true, true_and, ite_self, true_or, or_true, false_or, or_false, and_false, false_and, not_true_eq_false, not_false_eq_true, if_true, if_false]
  refine EV_call (CV_mono (q_closeNext (d + 3) hT hc) ?_)
  intro r t2 h2
  have h01 := CkP01 h2
  have hs := hq r t2 h2
  rcases h01 with e | e
  · subst e
    have hx := K0 t2 hs
    simp (disch := first | assumption | omega) only [rn, wk, al, wr_e, td_e, tm_e, mset_eq, mset_ne, if_pos, if_neg, Int.reduceAdd, Int.reduceSub, Int.reduceMul, Int.reduceNeg, Int.reduceLT, Int.reduceLE, Int.reduceEq, Int.cast_ofNat_Int, eq_self, and_true, true_and, ite_self, true_or, or_true, false_or, or_false, and_false, false_and, not_true_eq_false, not_false_eq_true, if_true, if_false, e_MorningsReader_readInto_0, e_MorningsReader_readInto_58, e_MorningsReader_readInto_62, e_MorningsReader_readInto_63, e_MorningsReader_readInto_64, e_MorningsReader_readInto_80, e_MorningsReader_readInto_81, e_MorningsReader_readInto_96, e_MorningsReader_readInto_117, e_MorningsReader_readInto_118, e_MorningsReader_readInto_135, e_MorningsReader_readInto_143]
    exact hx
  · subst e
    have hx := K1 t2 1 hs
    simp (disch := first | assumption | omega) only [rn, wk, al, wr_e, td_e, tm_e, mset_eq, mset_ne, if_pos, if_neg, Int.reduceAdd, Int.reduceSub, Int.reduceMul, Int.reduceNeg, Int.reduceLT, Int.reduceLE, Int.reduceEq, Int.cast_ofNat_Int, eq_self, and_true, true_and, ite_self, true_or, or_true, false_or, or_false, and_false, false_and, not_true_eq_false, not_false_eq_true, if_true, if_false, e_MorningsReader_readInto_0, e_MorningsReader_readInto_58, e_MorningsReader_readInto_62, e_MorningsReader_readInto_63, e_MorningsReader_readInto_64, e_MorningsReader_readInto_80, e_MorningsReader_readInto_81, e_MorningsReader_readInto_96, e_MorningsReader_readInto_117, e_MorningsReader_readInto_118, e_MorningsReader_readInto_135, e_MorningsReader_readInto_143]
    exact hx
theorem x_118n (d : Nat) {D : Nat} {T : Int → Int} {n p : Int} {s t : Mem} (i z y : Int) (Q : Int → Mem → Prop) (hs : StP D T n p s 0 t) (K0 : ∀ t, StP D T n p s 0 t → Q 0 t) : EV (d + 6) o_MorningsReader_readInto 118 [0] [10, 69, 37, i, z, y] t Q := by
  have hx := K0 t hs
  rw [e_MorningsReader_readInto_118]
  simp (disch := first | assumption | omega) only [rn, wk, al, wr_e, td_e, tm_e, mset_eq, mset_ne, if_pos, if_neg, Int.reduceAdd, Int.reduceSub, Int.reduceMul, Int.reduceNeg, Int.reduceLT, Int.reduceLE, Int.reduceEq, Int.cast_ofNat_Int, eq_self, and_true, true_and, ite_self, true_or, or_true, false_or, or_false, and_false, false_and, not_true_eq_false, not_false_eq_true, if_true, if_false, e_MorningsReader_readInto_0, e_MorningsReader_readInto_58, e_MorningsReader_readInto_62, e_MorningsReader_readInto_63, e_MorningsReader_readInto_64, e_MorningsReader_readInto_80, e_MorningsReader_readInto_81, e_MorningsReader_readInto_96, e_MorningsReader_readInto_117, e_MorningsReader_readInto_118, e_MorningsReader_readInto_135, e_MorningsReader_readInto_143]
  exact hx
