/-! ===== H2: mornings, one step of both ===== -/
theorem x_76 (d D : Nat) {T : Int → Int} {n p : Int} (hT : TX T n) {s s1 : Mem} (i z y : Int) (Q : Int → Mem → Prop) (hc : CV (d + 6) 76 [10, 69, 37] s1 (fun r t => (r = 1 ∧ ∃ p1, Cs T n p1 t ∧ ∀ r2 t2, CkP T n p1 t (cOk T n p1) 2 r2 t2 → StP D T n p s r2 t2) ∨ (r = 0 ∧ StP D T n p s 0 t))) (K1 : ∀ t z y, StP D T n p s 1 t → EV (d + 6) o_MorningsReader_readInto 137 [] [10, 69, 37, i, z, y] t Q) (K0 : ∀ t, StP D T n p s 0 t → Q 0 t) (w : Int) (hw : w ≠ 19) (qw : sem (d + 6) 35 [7] s = some (w, s)) (qb : sem (d + 6) 74 [10, 69] s = some (1, s1)) : EV (d + 6) o_MorningsReader_readInto 64 [] [10, 69, 37, i, z, y] s Q := by
  rw [e_MorningsReader_readInto_64]
  simp (disch := first | assumption | omega) only [rn, wk, al, wr_e, td_e, tm_e, mset_eq, mset_ne, if_pos, if_neg, Int.reduceAdd, Int.reduceSub, Int.reduceMul, Int.reduceNeg, Int.reduceLT, Int.reduceLE, Int.reduceEq, Int.cast_ofNat_Int, eq_self, and_true, true_and, ite_self, true_or, or_true, false_or, or_false, and_false, false_and, not_true_eq_false, not_false_eq_true, if_true, if_false, e_MorningsReader_readInto_0, e_MorningsReader_readInto_58, e_MorningsReader_readInto_62, e_MorningsReader_readInto_63, e_MorningsReader_readInto_80, e_MorningsReader_readInto_81, e_MorningsReader_readInto_96, e_MorningsReader_readInto_117, e_MorningsReader_readInto_135, e_MorningsReader_readInto_143, qw, qb]
  refine EV_call (CV_mono hc ?_)
  rintro r t (⟨e, p1, ct, h2⟩ | ⟨e, h0⟩)
  · subst e
    have hx := x_118 d D hT ct i 0 y Q h2 (fun t y => K1 t 0 y) K0
    simp (disch := first | assumption | omega) only [rn, wk, al, wr_e, td_e, tm_e, mset_eq, mset_ne, if_pos, if_neg, Int.reduceAdd, Int.reduceSub, Int.reduceMul, Int.reduceNeg, Int.reduceLT, Int.reduceLE, Int.reduceEq, Int.cast_ofNat_Int, eq_self, and_true, true_and, ite_self, true_or, or_true, false_or, or_false, and_false, false_and, not_true_eq_false, not_false_eq_true, if_true, if_false, e_MorningsReader_readInto_0, e_MorningsReader_readInto_58, e_MorningsReader_readInto_62, e_MorningsReader_readInto_63, e_MorningsReader_readInto_80, e_MorningsReader_readInto_81, e_MorningsReader_readInto_96, e_MorningsReader_readInto_117, e_MorningsReader_readInto_135, e_MorningsReader_readInto_143]
    exact hx
  · subst e
    have hx := x_118n d i 0 y Q h0 K0
    simp (disch := first | assumption | omega) only [rn, wk, al, wr_e, td_e, tm_e, mset_eq, mset_ne, if_pos, if_neg, Int.reduceAdd, Int.reduceSub, Int.reduceMul, Int.reduceNeg, Int.reduceLT, Int.reduceLE, Int.reduceEq, Int.cast_ofNat_Int, eq_self, and_true, true_and, ite_self, true_or, or_true, false_or, or_false, and_false, false_and, not_true_eq_false, not_false_eq_true, if_true, if_false, e_MorningsReader_readInto_0, e_MorningsReader_readInto_58, e_MorningsReader_readInto_62, e_MorningsReader_readInto_63, e_MorningsReader_readInto_80, e_MorningsReader_readInto_81, e_MorningsReader_readInto_96, e_MorningsReader_readInto_117, e_MorningsReader_readInto_135, e_MorningsReader_readInto_143]
    exact hx
theorem x_64n (d D : Nat) {T : Int → Int} {n p : Int} {s t : Mem} (i z y : Int) (Q : Int → Mem → Prop) (h0 : StP D T n p s 0 t) (K0 : ∀ t, StP D T n p s 0 t → Q 0 t) (w : Int) (hw : w ≠ 19) (qw : sem (d + 6) 35 [7] s = some (w, s)) (qb : sem (d + 6) 74 [10, 69] s = some (0, t)) : EV (d + 6) o_MorningsReader_readInto 64 [] [10, 69, 37, i, z, y] s Q := by
  have hx := x_118n d i 0 y Q h0 K0
  rw [e_MorningsReader_readInto_64]
  simp (disch := first | assumption | omega) only [rn, wk, al, wr_e, td_e, tm_e, mset_eq, mset_ne, if_pos, if_neg, Int.reduceAdd, Int.reduceSub, Int.reduceMul, Int.reduceNeg, Int.reduceLT, Int.reduceLE, Int.reduceEq, Int.cast_ofNat_Int, eq_self, and_true, true_and, ite_self, true_or, or_true, false_or, or_false, and_false, false_and, not_true_eq_false, not_false_eq_true, if_true, if_false, e_MorningsReader_readInto_0, e_MorningsReader_readInto_58, e_MorningsReader_readInto_62, e_MorningsReader_readInto_63, e_MorningsReader_readInto_80, e_MorningsReader_readInto_81, e_MorningsReader_readInto_96, e_MorningsReader_readInto_117, e_MorningsReader_readInto_135, e_MorningsReader_readInto_143, qw, qb]
  exact hx
theorem x_step (d D : Nat) {T : Int → Int} {n p : Int} (hT : TX T n) {s : Mem} (hp : 0 ≤ p ∧ p ≤ n) (hk : TkC T n p s) (hs : Cs T n (tke T n p) s) (hR : ∃ u0 u, MI T n s u0 u p) (i z y : Int) (Q : Int → Mem → Prop) (K1 : ∀ t z y, StP D T n p s 1 t → EV (d + 6) o_MorningsReader_readInto 137 [] [10, 69, 37, i, z, y] t Q) (K0 : ∀ t, StP D T n p s 0 t → Q 0 t) : EV (d + 6) o_MorningsReader_readInto 64 [] [10, 69, 37, i, z, y] s Q := by
  have qw := q_Tword (d + 5) s hk
  obtain ⟨w, hw⟩ : ∃ w, w = (if tkk T n p = 1 then wnT T n p else -1) := ⟨_, rfl⟩
  rw [← hw] at qw
  have wb := wnT_b (T := T) (n := n) (p := p)
  have hwb : -1 ≤ w ∧ w ≤ 20 := by rw [hw]; split <;> omega
  have wok : 0 ≤ w → wOk T n p w := fun hx => by
    by_cases e1 : tkk T n p = 1
    · rw [if_pos e1] at hw; exact ⟨e1, hw.symm⟩
    · rw [if_neg e1] at hw; omega
  have hkw : kw T n p = pm w := by
    unfold kw
    by_cases e1 : tkk T n p = 1
    · rw [if_pos e1] at hw ⊢; rw [hw]
    · rw [if_neg e1] at hw ⊢; rw [hw]; rfl
  by_cases c19 : w = 19
  · subst c19
    exact x_end d D hT hp hk hs (wok (by omega)) hR i z y Q K1 K0
  obtain ⟨u0', u', hu'⟩ := id hR
  have hcn := hu'.2.2.2.1
  obtain ⟨r, t1, qb, b1, b2, b3, b4, b5⟩ := q_beginStep (d + 4) hk w hw (s := s) ⟨hcn.1, hcn.2.2.2⟩ hcn.2.1 hcn.2.2.1
  have h23 : ∀ u0 u, MI T n s u0 u p → 30 ≤ s 69 1 → u 137 23 = 30 := fun u0 u hu h => by have := hu.2.2.2.2.1.2.1; omega
  by_cases co : w = 15 ∨ w = 18
  · have kk := pm_op co
    rw [← hkw] at kk
    by_cases c30 : 30 ≤ s 69 1
    · obtain ⟨e1, e2⟩ := b2 (Or.inl co) c30
      subst e1 e2
      exact x_64n d D i z y Q (no_tok (by omega) (fun u0 u hu => st_6 (D + 4) hT hu.2.1 (s 69 2) hu.2.2.2.2.1.1 (by omega) (h23 u0 u hu c30) ⟨kk.1.1, kk.1.2, kk.2.1⟩)) K0 w c19 qw qb
    · by_cases c3 : 3 ≤ s 10 2
      · obtain ⟨e1, e2⟩ := b3 co c30 c3
        subst e1 e2
        exact x_64n d D i z y Q (no_tok (by omega) (fun u0 u hu => st_7 (D + 4) hT hu.2.1 (s 69 2) hu.2.2.2.2.1.1 (by omega) (by have := hu.2.2.2.2.1.2.1; omega) (by have := hu.2.2.2.2.1.2.2.1; omega) kk.2.2)) K0 w c19 qw qb
      · obtain ⟨e1, e2⟩ := b4 co c30 c3
        subst e1
        exact x_76 d D hT i z y Q (x_open d D hT hp hk hs (wok (by omega)) co rfl (by omega) (by omega) e2 hR) K1 K0 w c19 qw qb
  · by_cases cp : plW w
    · have kk := pm_pl cp
      rw [← hkw] at kk
      by_cases c30 : 30 ≤ s 69 1
      · obtain ⟨e1, e2⟩ := b2 (Or.inr cp) c30
        subst e1 e2
        exact x_64n d D i z y Q (no_tok (by omega) (fun u0 u hu => st_6 (D + 4) hT hu.2.1 (s 69 2) hu.2.2.2.2.1.1 (by omega) (h23 u0 u hu c30) ⟨kk.1.1, kk.1.2, kk.2.1⟩)) K0 w c19 qw qb
      · obtain ⟨e1, e2⟩ := b5 cp c30
        subst e1
        exact x_76 d D hT i z y Q (x_plain d D hT hp hk hs (wok (by unfold plW at cp; omega)) cp rfl (by omega) e2 hR) K1 K0 w c19 qw qb
    · have kk := pm_bad hwb co cp c19
      rw [← hkw] at kk
      obtain ⟨e1, e2⟩ := b1 co cp
      subst e1 e2
      exact x_64n d D i z y Q (no_tok (by omega) (fun u0 u hu => st_2 (D + 4) hT hu.2.1 (s 69 2) (s 10 2) hu.2.2.2.2.1.1 (by omega) hu.2.2.2.2.1.2.2.1 (by omega))) K0 w c19 qw qb
