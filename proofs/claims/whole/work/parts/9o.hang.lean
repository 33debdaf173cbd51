/-! ===== H2: hanging, hangingSet alike ===== -/
/-- the best set among those from lo up to hi -/
def bs (A : Mem) (lo hi r : Int) : Prop := (r = -1 ∧ ∀ e, lo ≤ e ∧ e < hi → ¬ DP A e) ∨ ((lo ≤ r ∧ r < hi) ∧ DP A r ∧ ∀ e, lo ≤ e ∧ e < hi → DP A e → bc r < bc e ∨ (bc r = bc e ∧ r ≤ e))
theorem bs_uniq {A : Mem} {N r r' : Int} (h : bs A 0 N r) (h' : bs A 0 N r') : r = r' := by
  rcases h with ⟨h1, h2⟩ | ⟨h1, h2, h3⟩
  · rcases h' with ⟨k1, k2⟩ | ⟨k1, k2, k3⟩
    · omega
    · exact absurd k2 (h2 r' k1)
  · rcases h' with ⟨k1, k2⟩ | ⟨k1, k2, k3⟩
    · exact absurd h2 (k2 r h1)
    · have := h3 r' k1 k2
      have := k3 r h1 h2
      omega
def pr_ (A : Mem) (a b e : Int) : Prop := ∃ q q', q < q' ∧ vQ A q ∧ vQ A q' ∧ pa A e q q' ∧ (q < a ∨ (q = a ∧ q' < b))
theorem lp_le3 (d : Nat) (A u : Mem) (N : Int) (hN : N ≤ 128) (hd : ∀ e, 0 ≤ e ∧ e < N → (DP A e → u 36 e = 0) ∧ (¬ DP A e → u 36 e = 1)) (Q : Int → Mem → Prop) (hQ : ∀ r, bs A 0 N r → Q r u) : ∀ (n : Nat) (r z : Int), (n : Int) ≤ N → bs A n N r → EV (d + 1) o_Parting_leastSet 79 [] [31, 37, N, r, (n : Int) - 1, z] u Q := by
  intro n
  induction n with
  | zero =>
    intro r z hn hr
    rw [e_Parting_leastSet_79]
    simp (disch := first | assumption | omega) only [rn, wk, al, wr_e, td_e, tm_e, mset_eq, mset_ne, if_pos, if_neg, Int.reduceAdd, Int.reduceSub, Int.reduceMul, Int.reduceNeg, Int.reduceLT, Int.reduceLE, Int.reduceEq, Int.cast_ofNat_Int, eq_self, and_true, true_and, ite_self, true_or, or_true, false_or, or_false, and_false, false_and, not_true_eq_false, not_false_eq_true, if_true, if_false, e_Parting_leastSet_0, e_Parting_leastSet_60, e_Parting_leastSet_66, e_Parting_leastSet_72, e_Parting_leastSet_101, e_Parting_leastSet_105, e_Parting_leastSet_106, e_Parting_leastSet_126, e_Parting_leastSet_132]
    exact hQ r hr
  | succ n ih =>
    intro r z hn hr
    have e1 : ((n + 1 : Nat) : Int) - 1 = n := by omega
    have e2 : ((n + 1 : Nat) : Int) = (n : Int) + 1 := by omega
    rw [e2] at hr hn
    obtain ⟨d1, d0⟩ := hd n (by omega)
    have b1 := q_bitCount d (n : Int) u (by omega)
    have step : ∀ (r z : Int), bs A n N r → EV (d + 1) o_Parting_leastSet 79 [] [31, 37, N, r, (n : Int) + -1, z] u Q := by
      intro r z h
      have := ih r z (by omega) h
      rw [show (n : Int) - 1 = n + -1 by omega] at this
      exact this
    have keep : ¬ DP A n → bs A n N r := by
      intro hn'
      rcases hr with ⟨x, y⟩ | ⟨x, y, w⟩
      · refine Or.inl ⟨x, fun e he => ?_⟩
        by_cases ee : e = n
        · rw [ee]; exact hn'
        · exact y e (by omega)
      · refine Or.inr ⟨by omega, y, fun e he hD => ?_⟩
        by_cases ee : e = n
        · rw [ee] at hD; exact absurd hD hn'
        · exact w e (by omega) hD
    rw [e1, e_Parting_leastSet_79]
    by_cases cr : r = -1
    · subst cr
      by_cases cD : DP A n
      · have g := d1 cD
        have hb : bs A n N n := by
          refine Or.inr ⟨by omega, cD, fun e he hD => ?_⟩
          by_cases ee : e = n
          · rw [ee]; omega
          · rcases hr with ⟨x, y⟩ | ⟨x, y, w⟩
            · exact absurd hD (y e (by omega))
            · omega
        simp (disch := first | assumption | omega) only [rn, wk, al, wr_e, td_e, tm_e, mset_eq, mset_ne, if_pos, if_neg, Int.reduceAdd, Int.reduceSub, Int.reduceMul, Int.reduceNeg, Int.reduceLT, Int.reduceLE, Int.reduceEq, Int.cast_ofNat_Int, eq_self, and_true, true_and, ite_self, true_or, or_true, false_or, or_false, and_false, false_and, not_true_eq_false, not_false_eq_true, if_true, if_false, e_Parting_leastSet_0, e_Parting_leastSet_60, e_Parting_leastSet_66, e_Parting_leastSet_72, e_Parting_leastSet_101, e_Parting_leastSet_105, e_Parting_leastSet_106, e_Parting_leastSet_126, e_Parting_leastSet_132, g]
        exact step _ _ hb
      · have g := d0 cD
        simp (disch := first | assumption | omega) only [rn, wk, al, wr_e, td_e, tm_e, mset_eq, mset_ne, if_pos, if_neg, Int.reduceAdd, Int.reduceSub, Int.reduceMul, Int.reduceNeg, Int.reduceLT, Int.reduceLE, Int.reduceEq, Int.cast_ofNat_Int, eq_self, and_true, true_and, ite_self, true_or, or_true, false_or, or_false, and_false, false_and, not_true_eq_false, not_false_eq_true, if_true, if_false, e_Parting_leastSet_0, e_Parting_leastSet_60, e_Parting_leastSet_66, e_Parting_leastSet_72, e_Parting_leastSet_101, e_Parting_leastSet_105, e_Parting_leastSet_106, e_Parting_leastSet_126, e_Parting_leastSet_132, g]
        exact step _ _ (keep cD)
    · have hr0 : (n : Int) + 1 ≤ r ∧ r < N := by
        rcases hr with ⟨x, y⟩ | ⟨x, y, w⟩
        · exact absurd x cr
        · exact x
      have b2 := q_bitCount d r u (by omega)
      by_cases cb : bc n ≤ bc r
      · by_cases cD : DP A n
        · have g := d1 cD
          have hb : bs A n N n := by
            refine Or.inr ⟨by omega, cD, fun e he hD => ?_⟩
            by_cases ee : e = n
            · rw [ee]; omega
            · rcases hr with ⟨x, y⟩ | ⟨x, y, w⟩
              · exact absurd x cr
              · have := w e (by omega) hD
                omega
          simp (disch := first | assumption | omega) only [rn, wk, al, wr_e, td_e, tm_e, mset_eq, mset_ne, if_pos, if_neg, Int.reduceAdd, Int.reduceSub, Int.reduceMul, Int.reduceNeg, Int.reduceLT, Int.reduceLE, Int.reduceEq, Int.cast_ofNat_Int, eq_self, and_true, true_and, ite_self, true_or, or_true, false_or, or_false, and_false, false_and, not_true_eq_false, not_false_eq_true, if_true, if_false, e_Parting_leastSet_0, e_Parting_leastSet_60, e_Parting_leastSet_66, e_Parting_leastSet_72, e_Parting_leastSet_101, e_Parting_leastSet_105, e_Parting_leastSet_106, e_Parting_leastSet_126, e_Parting_leastSet_132, g, b1, b2]
          exact step _ _ hb
        · have g := d0 cD
          simp (disch := first | assumption | omega) only [rn, wk, al, wr_e, td_e, tm_e, mset_eq, mset_ne, if_pos, if_neg, Int.reduceAdd, Int.reduceSub, Int.reduceMul, Int.reduceNeg, Int.reduceLT, Int.reduceLE, Int.reduceEq, Int.cast_ofNat_Int, eq_self, and_true, true_and, ite_self, true_or, or_true, false_or, or_false, and_false, false_and, not_true_eq_false, not_false_eq_true, if_true, if_false, e_Parting_leastSet_0, e_Parting_leastSet_60, e_Parting_leastSet_66, e_Parting_leastSet_72, e_Parting_leastSet_101, e_Parting_leastSet_105, e_Parting_leastSet_106, e_Parting_leastSet_126, e_Parting_leastSet_132, g, b1, b2]
          exact step _ _ (keep cD)
      · have hb : bs A n N r := by
          rcases hr with ⟨x, y⟩ | ⟨x, y, w⟩
          · exact absurd x cr
          · refine Or.inr ⟨by omega, y, fun e he hD => ?_⟩
            by_cases ee : e = n
            · rw [ee]; omega
            · exact w e (by omega) hD
        by_cases cD : DP A n
        · have g := d1 cD
          simp (disch := first | assumption | omega) only [rn, wk, al, wr_e, td_e, tm_e, mset_eq, mset_ne, if_pos, if_neg, Int.reduceAdd, Int.reduceSub, Int.reduceMul, Int.reduceNeg, Int.reduceLT, Int.reduceLE, Int.reduceEq, Int.cast_ofNat_Int, eq_self, and_true, true_and, ite_self, true_or, or_true, false_or, or_false, and_false, false_and, not_true_eq_false, not_false_eq_true, if_true, if_false, e_Parting_leastSet_0, e_Parting_leastSet_60, e_Parting_leastSet_66, e_Parting_leastSet_72, e_Parting_leastSet_101, e_Parting_leastSet_105, e_Parting_leastSet_106, e_Parting_leastSet_126, e_Parting_leastSet_132, g, b1, b2]
          exact step _ _ hb
        · have g := d0 cD
          simp (disch := first | assumption | omega) only [rn, wk, al, wr_e, td_e, tm_e, mset_eq, mset_ne, if_pos, if_neg, Int.reduceAdd, Int.reduceSub, Int.reduceMul, Int.reduceNeg, Int.reduceLT, Int.reduceLE, Int.reduceEq, Int.cast_ofNat_Int, eq_self, and_true, true_and, ite_self, true_or, or_true, false_or, or_false, and_false, false_and, not_true_eq_false, not_false_eq_true, if_true, if_false, e_Parting_leastSet_0, e_Parting_leastSet_60, e_Parting_leastSet_66, e_Parting_leastSet_72, e_Parting_leastSet_101, e_Parting_leastSet_105, e_Parting_leastSet_106, e_Parting_leastSet_126, e_Parting_leastSet_132, g, b1, b2]
          exact step _ _ hb
theorem lp_le2 (d : Nat) (A s : Mem) (hv : VB A) (hA : isA A s) (hfl : ∀ q p, vQ A q → 0 ≤ p ∧ p < A 0 1 → fld A s q p) (a : Int) (haa : 0 ≤ a ∧ a < 15) (Q : Int → Mem → Prop) (hQ : ∀ u z, Fm s u → (∀ e, 0 ≤ e ∧ e < 2 ^ (A 0 1).toNat → (pr_ A (a + 1) 0 e → u 36 e = 1) ∧ (¬ pr_ A (a + 1) 0 e → u 36 e = 0)) → EV (d + 2) o_Parting_leastSet 66 [] [31, 37, 2 ^ (A 0 1).toNat, a, z, 0] u Q) : ∀ (n : Nat) (b : Int) (u : Mem), a < b → b + n = 15 → Fm s u → (∀ e, 0 ≤ e ∧ e < 2 ^ (A 0 1).toNat → (pr_ A a b e → u 36 e = 1) ∧ (¬ pr_ A a b e → u 36 e = 0)) → EV (d + 2) o_Parting_leastSet 28 [] [31, 37, 2 ^ (A 0 1).toNat, a, b, 0] u Q := by
  intro n
  induction n with
  | zero =>
    intro b u h0 hb hf hu
    have hq := hQ u b hf (fun e he => by
      have e1 : pr_ A (a + 1) 0 e ↔ pr_ A a b e := by
        constructor
        · rintro ⟨q, q', x1, x2, x3, x4, x5⟩
          refine ⟨q, q', x1, x2, x3, x4, ?_⟩
          unfold vQ at x2 x3; omega
        · rintro ⟨q, q', x1, x2, x3, x4, x5⟩
          exact ⟨q, q', x1, x2, x3, x4, by omega⟩
      rw [e1]; exact hu e he)
    rw [e_Parting_leastSet_28]
    simp (disch := first | assumption | omega) only [rn, wk, al, wr_e, td_e, tm_e, mset_eq, mset_ne, if_pos, if_neg, Int.reduceAdd, Int.reduceSub, Int.reduceMul, Int.reduceNeg, Int.reduceLT, Int.reduceLE, Int.reduceEq, Int.cast_ofNat_Int, eq_self, and_true, true_and, ite_self, true_or, or_true, false_or, or_false, and_false, false_and, not_true_eq_false, not_false_eq_true, if_true, if_false]
    exact hq
  | succ n ih =>
    intro b u h0 hb hf hu
    have hAu : isA A u := ⟨by rw [hf _ _ (by omega) (by omega) (by omega)]; exact hA.1, by funext i; rw [hf _ _ (by omega) (by omega) (by omega)]; exact congrFun hA.2.1 i, by rw [hf _ _ (by omega) (by omega) (by omega)]; exact hA.2.2⟩
    have hflu : ∀ q p, vQ A q → 0 ≤ p ∧ p < A 0 1 → fld A u q p := fun q p hq hp => by
      have := hfl q p hq hp
      unfold fld at this ⊢
      rw [hf _ _ (by omega) (by omega) (by omega), hf _ _ (by omega) (by omega) (by omega)]; exact this
    rw [e_Parting_leastSet_28]
    by_cases ca : vQ A a
    · have t1 := q_isThere1 d A u hv hAu a (by omega) ca
      by_cases cb : vQ A b
      · have t2 := q_isThere1 d A u hv hAu b (by omega) cb
        simp (disch := first | assumption | omega) only [rn, wk, al, wr_e, td_e, tm_e, mset_eq, mset_ne, if_pos, if_neg, Int.reduceAdd, Int.reduceSub, Int.reduceMul, Int.reduceNeg, Int.reduceLT, Int.reduceLE, Int.reduceEq, Int.cast_ofNat_Int, eq_self, and_true, true_and, ite_self, true_or, or_true, false_or, or_false, and_false, false_and, not_true_eq_false, not_false_eq_true, if_true, if_false, e_Parting_leastSet_0, e_Parting_leastSet_60, e_Parting_leastSet_72, e_Parting_leastSet_101, e_Parting_leastSet_105, e_Parting_leastSet_106, e_Parting_leastSet_126, e_Parting_leastSet_132, t1, t2]
        refine EV_call (CV_mono (q_markUnparted d A u hv a b ca cb hflu) ?_)
        rintro r t ⟨m1, m2⟩
        simp (disch := first | assumption | omega) only [rn, wk, al, wr_e, td_e, tm_e, mset_eq, mset_ne, if_pos, if_neg, Int.reduceAdd, Int.reduceSub, Int.reduceMul, Int.reduceNeg, Int.reduceLT, Int.reduceLE, Int.reduceEq, Int.cast_ofNat_Int, eq_self, and_true, true_and, ite_self, true_or, or_true, false_or, or_false, and_false, false_and, not_true_eq_false, not_false_eq_true, if_true, if_false, e_Parting_leastSet_0, e_Parting_leastSet_60, e_Parting_leastSet_72, e_Parting_leastSet_101, e_Parting_leastSet_105, e_Parting_leastSet_106, e_Parting_leastSet_126, e_Parting_leastSet_132]
        refine ih (b + 1) t (by omega) (by omega) (fun c i x y z => by rw [m1 c i x y z, hf c i x y z]) (fun e he => ?_)
        obtain ⟨u1, u2⟩ := hu e he
        obtain ⟨k1, k2⟩ := m2 e he
        have split_ : pr_ A a (b + 1) e ↔ (pr_ A a b e ∨ pa A e a b) := by
          constructor
          · rintro ⟨q, q', x1, x2, x3, x4, x5⟩
            by_cases eq : q = a ∧ q' = b
            · obtain ⟨rfl, rfl⟩ := eq; exact Or.inr x4
            · exact Or.inl ⟨q, q', x1, x2, x3, x4, by omega⟩
          · rintro (⟨q, q', x1, x2, x3, x4, x5⟩ | x)
            · exact ⟨q, q', x1, x2, x3, x4, by omega⟩
            · exact ⟨a, b, h0, ca, cb, x, by omega⟩
        by_cases cp : pa A e a b
        · exact ⟨fun _ => k1 cp, fun x => absurd (split_.mpr (Or.inr cp)) x⟩
        · rw [k2 cp]
          refine ⟨fun x => u1 ?_, fun x => u2 (fun y => x (split_.mpr (Or.inl y)))⟩
          rcases split_.mp x with y | y
          · exact y
          · exact absurd y cp
      · have t2 := q_isThere0 d A u hv hAu b (by omega) cb
        simp (disch := first | assumption | omega) only [rn, wk, al, wr_e, td_e, tm_e, mset_eq, mset_ne, if_pos, if_neg, Int.reduceAdd, Int.reduceSub, Int.reduceMul, Int.reduceNeg, Int.reduceLT, Int.reduceLE, Int.reduceEq, Int.cast_ofNat_Int, eq_self, and_true, true_and, ite_self, true_or, or_true, false_or, or_false, and_false, false_and, not_true_eq_false, not_false_eq_true, if_true, if_false, e_Parting_leastSet_0, e_Parting_leastSet_60, e_Parting_leastSet_72, e_Parting_leastSet_101, e_Parting_leastSet_105, e_Parting_leastSet_106, e_Parting_leastSet_126, e_Parting_leastSet_132, t1, t2]
        refine ih (b + 1) u (by omega) (by omega) hf (fun e he => ?_)
        have e1 : pr_ A a (b + 1) e ↔ pr_ A a b e := by
          constructor
          · rintro ⟨q, q', x1, x2, x3, x4, x5⟩
            refine ⟨q, q', x1, x2, x3, x4, ?_⟩
            by_cases eq : q' = b
            · subst eq; exact absurd x3 cb
            · omega
          · rintro ⟨q, q', x1, x2, x3, x4, x5⟩
            exact ⟨q, q', x1, x2, x3, x4, by omega⟩
        rw [e1]; exact hu e he
    · have t1 := q_isThere0 d A u hv hAu a (by omega) ca
      have hq := hQ u b hf (fun e he => by
        have e1 : pr_ A (a + 1) 0 e ↔ pr_ A a b e := by
          constructor
          · rintro ⟨q, q', x1, x2, x3, x4, x5⟩
            refine ⟨q, q', x1, x2, x3, x4, ?_⟩
            by_cases eq : q = a
            · subst eq; exact absurd x2 ca
            · unfold vQ at x3; omega
          · rintro ⟨q, q', x1, x2, x3, x4, x5⟩
            exact ⟨q, q', x1, x2, x3, x4, by omega⟩
        rw [e1]; exact hu e he)
      simp (disch := first | assumption | omega) only [rn, wk, al, wr_e, td_e, tm_e, mset_eq, mset_ne, if_pos, if_neg, Int.reduceAdd, Int.reduceSub, Int.reduceMul, Int.reduceNeg, Int.reduceLT, Int.reduceLE, Int.reduceEq, Int.cast_ofNat_Int, eq_self, and_true, true_and, ite_self, true_or, or_true, false_or, or_false, and_false, false_and, not_true_eq_false, not_false_eq_true, if_true, if_false, t1]
      exact hq
theorem lp_le1 (d : Nat) (A s : Mem) (hv : VB A) (hA : isA A s) (hfl : ∀ q p, vQ A q → 0 ≤ p ∧ p < A 0 1 → fld A s q p) (Q : Int → Mem → Prop) (hQ : ∀ u, Fm s u → ∀ r, bs A 0 (2 ^ (A 0 1).toNat) r → Q r u) : ∀ (n : Nat) (a : Int) (u : Mem) (z : Int), 0 ≤ a → a + n = 15 → Fm s u → (∀ e, 0 ≤ e ∧ e < 2 ^ (A 0 1).toNat → (pr_ A a 0 e → u 36 e = 1) ∧ (¬ pr_ A a 0 e → u 36 e = 0)) → EV (d + 2) o_Parting_leastSet 17 [] [31, 37, 2 ^ (A 0 1).toNat, a, z, 0] u Q := by
  have h1 := hv.1
  unfold VC at h1
  have p2 := p128 (n := A 0 1) (by omega)
  intro n
  induction n with
  | zero =>
    intro a u z h0 hb hf hu
    have hd : ∀ e, 0 ≤ e ∧ e < 2 ^ (A 0 1).toNat → (DP A e → u 36 e = 0) ∧ (¬ DP A e → u 36 e = 1) := by
      intro e he
      obtain ⟨u1, u2⟩ := hu e he
      refine ⟨fun hD => u2 ?_, fun hn => u1 ?_⟩
      · rintro ⟨q, q', x1, x2, x3, x4, x5⟩
        exact hD q q' x1 x2 x3 x4
      · apply Classical.byContradiction
        intro hx
        apply hn
        intro q q' x1 x2 x3 x4
        exact hx ⟨q, q', x1, x2, x3, x4, by unfold vQ at x2; omega⟩
    obtain ⟨m, hm⟩ : ∃ m : Nat, (m : Int) = 2 ^ (A 0 1).toNat := ⟨2 ^ (A 0 1).toNat, by push_cast; rfl⟩
    have hx := lp_le3 (d + 1) A u (2 ^ (A 0 1).toNat) p2.2 hd Q (hQ u hf) m (-1) 0 (by omega) (Or.inl ⟨rfl, fun e he => by omega⟩)
    rw [hm] at hx
    rw [e_Parting_leastSet_17]
    simp (disch := first | assumption | omega) only [rn, wk, al, wr_e, td_e, tm_e, mset_eq, mset_ne, if_pos, if_neg, Int.reduceAdd, Int.reduceSub, Int.reduceMul, Int.reduceNeg, Int.reduceLT, Int.reduceLE, Int.reduceEq, Int.cast_ofNat_Int, eq_self, and_true, true_and, ite_self, true_or, or_true, false_or, or_false, and_false, false_and, not_true_eq_false, not_false_eq_true, if_true, if_false, e_Parting_leastSet_0, e_Parting_leastSet_60, e_Parting_leastSet_66, e_Parting_leastSet_72, e_Parting_leastSet_101, e_Parting_leastSet_105, e_Parting_leastSet_106, e_Parting_leastSet_126, e_Parting_leastSet_132]
    exact hx
  | succ n ih =>
    intro a u z h0 hb hf hu
    rw [e_Parting_leastSet_17]
    simp (disch := first | assumption | omega) only [rn, wk, al, wr_e, td_e, tm_e, mset_eq, mset_ne, if_pos, if_neg, Int.reduceAdd, Int.reduceSub, Int.reduceMul, Int.reduceNeg, Int.reduceLT, Int.reduceLE, Int.reduceEq, Int.cast_ofNat_Int, eq_self, and_true, true_and, ite_self, true_or, or_true, false_or, or_false, and_false, false_and, not_true_eq_false, not_false_eq_true, if_true, if_false]
    have hAu : isA A u := ⟨by rw [hf _ _ (by omega) (by omega) (by omega)]; exact hA.1, by funext i; rw [hf _ _ (by omega) (by omega) (by omega)]; exact congrFun hA.2.1 i, by rw [hf _ _ (by omega) (by omega) (by omega)]; exact hA.2.2⟩
    refine lp_le2 d A s hv hA hfl a (by omega) Q ?_ (14 - a).toNat (a + 1) u (by omega) (by omega) hf (fun e he => ?_)
    · intro t z' t1 t2
      simp (disch := first | assumption | omega) only [rn, wk, al, wr_e, td_e, tm_e, mset_eq, mset_ne, if_pos, if_neg, Int.reduceAdd, Int.reduceSub, Int.reduceMul, Int.reduceNeg, Int.reduceLT, Int.reduceLE, Int.reduceEq, Int.cast_ofNat_Int, eq_self, and_true, true_and, ite_self, true_or, or_true, false_or, or_false, and_false, false_and, not_true_eq_false, not_false_eq_true, if_true, if_false, e_Parting_leastSet_0, e_Parting_leastSet_60, e_Parting_leastSet_66, e_Parting_leastSet_72, e_Parting_leastSet_101, e_Parting_leastSet_105, e_Parting_leastSet_106, e_Parting_leastSet_126, e_Parting_leastSet_132]
      exact ih (a + 1) t _ (by omega) (by omega) t1 t2
    · have e1 : pr_ A a (a + 1) e ↔ pr_ A a 0 e := by
        constructor
        · rintro ⟨q, q', x1, x2, x3, x4, x5⟩
          exact ⟨q, q', x1, x2, x3, x4, by omega⟩
        · rintro ⟨q, q', x1, x2, x3, x4, x5⟩
          refine ⟨q, q', x1, x2, x3, x4, ?_⟩
          unfold vQ at x2; omega
      rw [e1]; exact hu e he
theorem q_leastSet (d : Nat) (A s : Mem) (hv : VB A) (hA : isA A s) (hfl : ∀ q p, vQ A q → 0 ≤ p ∧ p < A 0 1 → fld A s q p) : CV (d + 3) 183 [31, 37] s fun r u => Fm s u ∧ bs A 0 (2 ^ (A 0 1).toNat) r := by
  have h1 := hv.1
  unfold VC at h1
  have p2 := p128 (n := A 0 1) (by omega)
  have g1 := hA.2.2
  have e1 := ish_1 (n := A 0 1) (by omega)
  have hF : Fm s (fil s 36 128 0) := by intro c i x y z; rw [fil_out (by omega)]
  have qf := q_fill (d + 1) 36 0 s (by rw [alen_36]; omega)
  rw [alen_36] at qf
  apply c_Parting_leastSet
  simp (disch := first | assumption | omega) only [rn, wk, al, wr_e, td_e, tm_e, mset_eq, mset_ne, if_pos, if_neg, Int.reduceAdd, Int.reduceSub, Int.reduceMul, Int.reduceNeg, Int.reduceLT, Int.reduceLE, Int.reduceEq, Int.cast_ofNat_Int, eq_self, and_true, true_and, ite_self, true_or, or_true, false_or, or_false, and_false, false_and, not_true_eq_false, not_false_eq_true, if_true, if_false, e_Parting_leastSet_0, e_Parting_leastSet_60, e_Parting_leastSet_66, e_Parting_leastSet_72, e_Parting_leastSet_101, e_Parting_leastSet_105, e_Parting_leastSet_106, e_Parting_leastSet_126, e_Parting_leastSet_132, g1, e1, qf]
  have hA2 : isA A (fil s 36 128 0) := ⟨by rw [fil_out (by omega)]; exact hA.1, by funext i; rw [fil_out (by omega)]; exact congrFun hA.2.1 i, by rw [fil_out (by omega)]; exact hA.2.2⟩
  refine lp_le1 d A s hv hA hfl _ (fun u x r y => ⟨x, y⟩) 15 0 _ 0 (by omega) (by omega) hF (fun e he => ⟨?_, fun _ => fil_in rfl (by omega)⟩)
  rintro ⟨q, q', x1, x2, x3, x4, x5⟩
  unfold vQ at x2 x3; omega
theorem lp_ho (d : Nat) (A u : Mem) (h : RB A u) (Q : Int → Mem → Prop) (hQ : ∀ r, bs A 0 (2 ^ (A 0 1).toNat) r → Q r u) : ∀ (n : Nat) (e r : Int), 0 ≤ e → e + n = 2 ^ (A 0 1).toNat → bs A 0 e r → EV (d + 7) o_R_hangingOf 8 [] [137, r, e] u Q := by
  have h1 := h.1.1
  unfold VC at h1
  have p2 := p128 (n := A 0 1) (by omega)
  have g0 : u 138 0 = A 0 1 := h.2.1.1
  have e1 := ish_1 (n := A 0 1) (by omega)
  intro n
  induction n with
  | zero =>
    intro e r h0 he hr
    have ee : e = 2 ^ (A 0 1).toNat := by omega
    subst ee
    rw [e_R_hangingOf_8]
    simp (disch := first | assumption | omega) only [rn, wk, al, wr_e, td_e, tm_e, mset_eq, mset_ne, if_pos, if_neg, Int.reduceAdd, Int.reduceSub, Int.reduceMul, Int.reduceNeg, Int.reduceLT, Int.reduceLE, Int.reduceEq, Int.cast_ofNat_Int, eq_self, and_true, true_and, ite_self, true_or, or_true, false_or, or_false, and_false, false_and, not_true_eq_false, not_false_eq_true, if_true, if_false, e_R_hangingOf_0, e_R_hangingOf_36, e_R_hangingOf_46, e_R_hangingOf_52, g0, e1]
    exact hQ r hr
  | succ n ih =>
    intro e r h0 he hr
    have b1 := q_Rbits (d + 6) e u (by omega)
    have keep : (¬ DP A e ∨ (r ≠ -1 ∧ bc r ≤ bc e)) → bs A 0 (e + 1) r := by
      intro hn'
      rcases hr with ⟨x, y⟩ | ⟨x, y, w⟩
      · refine Or.inl ⟨x, fun e' he' => ?_⟩
        by_cases ee : e' = e
        · subst ee
          rcases hn' with z | z
          · exact z
          · exact absurd x z.1
        · exact y e' (by omega)
      · refine Or.inr ⟨by omega, y, fun e' he' hD => ?_⟩
        by_cases ee : e' = e
        · subst ee
          rcases hn' with z | z
          · exact absurd hD z
          · omega
        · exact w e' (by omega) hD
    rw [e_R_hangingOf_8]
    by_cases cr : r = -1 ∨ bc e < bc r
    · have run36 : EV (d + 7) o_R_hangingOf 36 [] [137, r, e] u Q := by
        rw [e_R_hangingOf_36]
        simp (disch := first | assumption | omega) only [rn, wk, al, wr_e, td_e, tm_e, mset_eq, mset_ne, if_pos, if_neg, Int.reduceAdd, Int.reduceSub, Int.reduceMul, Int.reduceNeg, Int.reduceLT, Int.reduceLE, Int.reduceEq, Int.cast_ofNat_Int, eq_self, and_true, true_and, ite_self, true_or, or_true, false_or, or_false, and_false, false_and, not_true_eq_false, not_false_eq_true, if_true, if_false]
        refine EV_call (CV_mono (q_doesPart d A u h e (by omega)) ?_)
        rintro r2 t ⟨rfl, ⟨rfl, x⟩ | ⟨rfl, x⟩⟩
        · simp (disch := first | assumption | omega) only [rn, wk, al, wr_e, td_e, tm_e, mset_eq, mset_ne, if_pos, if_neg, Int.reduceAdd, Int.reduceSub, Int.reduceMul, Int.reduceNeg, Int.reduceLT, Int.reduceLE, Int.reduceEq, Int.cast_ofNat_Int, eq_self, and_true, true_and, ite_self, true_or, or_true, false_or, or_false, and_false, false_and, not_true_eq_false, not_false_eq_true, if_true, if_false, e_R_hangingOf_0, e_R_hangingOf_36, e_R_hangingOf_46, e_R_hangingOf_52]
          refine ih (e + 1) e (by omega) (by omega) (Or.inr ⟨by omega, x, fun e' he' hD => ?_⟩)
          by_cases ee : e' = e
          · subst ee; omega
          · rcases hr with ⟨y1, y2⟩ | ⟨y1, y2, y3⟩
            · exact absurd hD (y2 e' (by omega))
            · have := y3 e' (by omega) hD
              omega
        · simp (disch := first | assumption | omega) only [rn, wk, al, wr_e, td_e, tm_e, mset_eq, mset_ne, if_pos, if_neg, Int.reduceAdd, Int.reduceSub, Int.reduceMul, Int.reduceNeg, Int.reduceLT, Int.reduceLE, Int.reduceEq, Int.cast_ofNat_Int, eq_self, and_true, true_and, ite_self, true_or, or_true, false_or, or_false, and_false, false_and, not_true_eq_false, not_false_eq_true, if_true, if_false, e_R_hangingOf_0, e_R_hangingOf_36, e_R_hangingOf_46, e_R_hangingOf_52]
          exact ih (e + 1) r (by omega) (by omega) (keep (Or.inl x))
      by_cases cr1 : r = -1
      · simp (disch := first | assumption | omega) only [rn, wk, al, wr_e, td_e, tm_e, mset_eq, mset_ne, if_pos, if_neg, Int.reduceAdd, Int.reduceSub, Int.reduceMul, Int.reduceNeg, Int.reduceLT, Int.reduceLE, Int.reduceEq, Int.cast_ofNat_Int, eq_self, and_true, true_and, ite_self, true_or, or_true, false_or, or_false, and_false, false_and, not_true_eq_false, not_false_eq_true, if_true, if_false, g0, e1]
        exact run36
      · have hr0 : 0 ≤ r ∧ r < e := by
          rcases hr with ⟨x, y⟩ | ⟨x, y, w⟩
          · exact absurd x cr1
          · exact x
        have b2 := q_Rbits (d + 6) r u (by omega)
        simp (disch := first | assumption | omega) only [rn, wk, al, wr_e, td_e, tm_e, mset_eq, mset_ne, if_pos, if_neg, Int.reduceAdd, Int.reduceSub, Int.reduceMul, Int.reduceNeg, Int.reduceLT, Int.reduceLE, Int.reduceEq, Int.cast_ofNat_Int, eq_self, and_true, true_and, ite_self, true_or, or_true, false_or, or_false, and_false, false_and, not_true_eq_false, not_false_eq_true, if_true, if_false, g0, e1, b1, b2]
        exact run36
    · have hr0 : 0 ≤ r ∧ r < e := by
        rcases hr with ⟨x, y⟩ | ⟨x, y, w⟩
        · exact absurd (Or.inl x) cr
        · exact x
      have b2 := q_Rbits (d + 6) r u (by omega)
      simp (disch := first | assumption | omega) only [rn, wk, al, wr_e, td_e, tm_e, mset_eq, mset_ne, if_pos, if_neg, Int.reduceAdd, Int.reduceSub, Int.reduceMul, Int.reduceNeg, Int.reduceLT, Int.reduceLE, Int.reduceEq, Int.cast_ofNat_Int, eq_self, and_true, true_and, ite_self, true_or, or_true, false_or, or_false, and_false, false_and, not_true_eq_false, not_false_eq_true, if_true, if_false, e_R_hangingOf_0, e_R_hangingOf_46, e_R_hangingOf_52, g0, e1, b1, b2]
      exact ih (e + 1) r (by omega) (by omega) (keep (Or.inr ⟨by omega, by omega⟩))
theorem q_hangingOf {s t : Mem} (hi : Inv s) (d : Nat) (ht : t 138 = s 138) : CV (d + 8) 349 [137] t fun r u => Fx t 146 u ∧ bs (win s 37) 0 (2 ^ (s 37 1).toNat) r := by
  have hc := inv_c hi
  apply c_R_hangingOf
  simp (disch := first | assumption | omega) only [rn, wk, al, wr_e, td_e, tm_e, mset_eq, mset_ne, if_pos, if_neg, Int.reduceAdd, Int.reduceSub, Int.reduceMul, Int.reduceNeg, Int.reduceLT, Int.reduceLE, Int.reduceEq, Int.cast_ofNat_Int, eq_self, and_true, true_and, ite_self, true_or, or_true, false_or, or_false, and_false, false_and, not_true_eq_false, not_false_eq_true, if_true, if_false, e_R_hangingOf_0, e_R_hangingOf_36, e_R_hangingOf_46, e_R_hangingOf_52]
  refine EV_call (CV_mono (rb_far hi _ ht) ?_)
  rintro r u ⟨u1, u2⟩
  have p2 := p128 (n := s 37 1) (by omega)
  obtain ⟨m, hm⟩ : ∃ m : Nat, (m : Int) = 2 ^ (s 37 1).toNat := ⟨2 ^ (s 37 1).toNat, by push_cast; rfl⟩
  refine lp_ho d (win s 37) u u2 _ (fun r h => ⟨u1, h⟩) m 0 (-1) (by omega) (show (0 : Int) + (m : Int) = 2 ^ (s 37 1).toNat by omega) (Or.inl ⟨rfl, fun e he => by omega⟩)
theorem ak_hanging (d : Nat) : Ak (d + 30) 182 348 [] := by
  apply ak_of; intro s hi
  have hc := inv_c hi
  have hv := VB_of (inv_va hi)
  have p2 := p128 (n := s 37 1) (by omega)
  apply c_M_hanging
  simp (disch := first | assumption | omega) only [rn, wk, al, wr_e, td_e, tm_e, mset_eq, mset_ne, if_pos, if_neg, Int.reduceAdd, Int.reduceSub, Int.reduceMul, Int.reduceNeg, Int.reduceLT, Int.reduceLE, Int.reduceEq, Int.cast_ofNat_Int, eq_self, and_true, true_and, ite_self, true_or, or_true, false_or, or_false, and_false, false_and, not_true_eq_false, not_false_eq_true, if_true, if_false, e_M_hanging_0, e_M_hanging_37, e_M_hanging_45]
  refine EV_call (CV_mono (q_listen _ (win s 37) s rfl hv) ?_)
  rintro r0 v ⟨v1, v2⟩
  have hA : isA (win s 37) v := ⟨v1 _ _ (by omega) (by omega), funext fun i => v1 _ _ (by omega) (by omega), v1 _ _ (by omega) (by omega)⟩
  refine EV_call (CV_mono (q_leastSet _ (win s 37) v hv hA v2) ?_)
  rintro r w ⟨w1, w2⟩
  have hw : ∀ c i, ¬ (32 ≤ c ∧ c ≤ 36) → w c i = s c i := fun c i h => by rw [w1 c i (by omega) (by omega) (by omega), v1 c i (by omega) (by omega)]
  have e138 : ∀ p, mset w 0 0 p 138 = s 138 := fun p => by rw [mset_nc (by omega)]; funext i; exact hw _ _ (by omega)
  have hR : ∀ (p : Int) (Q : Int → Mem → Prop), (∀ u, Fx (mset w 0 0 p) 146 u → (r = -1 → Q (-1) (mset u 137 2 6)) ∧ (0 ≤ r ∧ r < 128 → Q (bc r) (mset u 137 2 0))) → CV (d + 30) 348 [137] (mset w 0 0 p) Q := by
    intro p Q hq
    apply c_R_hanging
    simp (disch := first | assumption | omega) only [rn, wk, al, wr_e, td_e, tm_e, mset_eq, mset_ne, if_pos, if_neg, Int.reduceAdd, Int.reduceSub, Int.reduceMul, Int.reduceNeg, Int.reduceLT, Int.reduceLE, Int.reduceEq, Int.cast_ofNat_Int, eq_self, and_true, true_and, ite_self, true_or, or_true, false_or, or_false, and_false, false_and, not_true_eq_false, not_false_eq_true, if_true, if_false, e_R_hanging_0, e_R_hanging_19, e_R_hanging_27]
    refine EV_call (CV_mono (q_hangingOf hi _ (e138 p)) ?_)
    rintro r' u ⟨u1, u2⟩
    have er := bs_uniq u2 w2
    subst er
    obtain ⟨k1, k2⟩ := hq u u1
    by_cases c : r' = -1
    · subst c
      simp (disch := first | assumption | omega) only [rn, wk, al, wr_e, td_e, tm_e, mset_eq, mset_ne, if_pos, if_neg, Int.reduceAdd, Int.reduceSub, Int.reduceMul, Int.reduceNeg, Int.reduceLT, Int.reduceLE, Int.reduceEq, Int.cast_ofNat_Int, eq_self, and_true, true_and, ite_self, true_or, or_true, false_or, or_false, and_false, false_and, not_true_eq_false, not_false_eq_true, if_true, if_false, e_R_hanging_0, e_R_hanging_19, e_R_hanging_27, q_refuse]
      exact k1 rfl
    · have hr0 : 0 ≤ r' ∧ r' < 2 ^ (s 37 1).toNat := by
        rcases u2 with ⟨x, y⟩ | ⟨x, y, z⟩
        · exact absurd x c
        · exact x
      have b2 := q_Rbits (d + 28) r' u (by omega)
      simp (disch := first | assumption | omega) only [rn, wk, al, wr_e, td_e, tm_e, mset_eq, mset_ne, if_pos, if_neg, Int.reduceAdd, Int.reduceSub, Int.reduceMul, Int.reduceNeg, Int.reduceLT, Int.reduceLE, Int.reduceEq, Int.cast_ofNat_Int, eq_self, and_true, true_and, ite_self, true_or, or_true, false_or, or_false, and_false, false_and, not_true_eq_false, not_false_eq_true, if_true, if_false, e_R_hanging_0, e_R_hanging_19, e_R_hanging_27, b2, q_gives]
      exact k2 (by omega)
  by_cases c : r = -1
  · subst c
    simp (disch := first | assumption | omega) only [rn, wk, al, wr_e, td_e, tm_e, mset_eq, mset_ne, if_pos, if_neg, Int.reduceAdd, Int.reduceSub, Int.reduceMul, Int.reduceNeg, Int.reduceLT, Int.reduceLE, Int.reduceEq, Int.cast_ofNat_Int, eq_self, and_true, true_and, ite_self, true_or, or_true, false_or, or_false, and_false, false_and, not_true_eq_false, not_false_eq_true, if_true, if_false, e_M_hanging_0, e_M_hanging_37, e_M_hanging_45, q_fail]
    refine hR 6 _ (fun u u1 => ⟨fun _ => ⟨rfl, inv_part 6 hi hw rfl u1⟩, fun h => by omega⟩)
  · have hr0 : 0 ≤ r ∧ r < 2 ^ (s 37 1).toNat := by
      rcases w2 with ⟨x, y⟩ | ⟨x, y, z⟩
      · exact absurd x c
      · exact x
    have b2 := q_bitCount (d + 28) r w (by omega)
    simp (disch := first | assumption | omega) only [rn, wk, al, wr_e, td_e, tm_e, mset_eq, mset_ne, if_pos, if_neg, Int.reduceAdd, Int.reduceSub, Int.reduceMul, Int.reduceNeg, Int.reduceLT, Int.reduceLE, Int.reduceEq, Int.cast_ofNat_Int, eq_self, and_true, true_and, ite_self, true_or, or_true, false_or, or_false, and_false, false_and, not_true_eq_false, not_false_eq_true, if_true, if_false, e_M_hanging_0, e_M_hanging_37, e_M_hanging_45, b2, q_pass]
    refine hR 0 _ (fun u u1 => ⟨fun h => absurd h c, fun _ => ⟨rfl, inv_part 0 hi hw rfl u1⟩⟩)
theorem ak_hangingSet (d : Nat) : Ak (d + 30) 187 351 [] := by
  apply ak_of; intro s hi
  have hc := inv_c hi
  have hv := VB_of (inv_va hi)
  have p2 := p128 (n := s 37 1) (by omega)
  apply c_M_hangingSet
  simp (disch := first | assumption | omega) only [rn, wk, al, wr_e, td_e, tm_e, mset_eq, mset_ne, if_pos, if_neg, Int.reduceAdd, Int.reduceSub, Int.reduceMul, Int.reduceNeg, Int.reduceLT, Int.reduceLE, Int.reduceEq, Int.cast_ofNat_Int, eq_self, and_true, true_and, ite_self, true_or, or_true, false_or, or_false, and_false, false_and, not_true_eq_false, not_false_eq_true, if_true, if_false, e_M_hangingSet_0, e_M_hangingSet_37, e_M_hangingSet_42]
  refine EV_call (CV_mono (q_listen _ (win s 37) s rfl hv) ?_)
  rintro r0 v ⟨v1, v2⟩
  have hA : isA (win s 37) v := ⟨v1 _ _ (by omega) (by omega), funext fun i => v1 _ _ (by omega) (by omega), v1 _ _ (by omega) (by omega)⟩
  refine EV_call (CV_mono (q_leastSet _ (win s 37) v hv hA v2) ?_)
  rintro r w ⟨w1, w2⟩
  have hw : ∀ c i, ¬ (32 ≤ c ∧ c ≤ 36) → w c i = s c i := fun c i h => by rw [w1 c i (by omega) (by omega) (by omega), v1 c i (by omega) (by omega)]
  have e138 : ∀ p, mset w 0 0 p 138 = s 138 := fun p => by rw [mset_nc (by omega)]; funext i; exact hw _ _ (by omega)
  have hR : ∀ (p : Int) (Q : Int → Mem → Prop), (∀ u, Fx (mset w 0 0 p) 146 u → Q r (mset u 137 2 (if r = -1 then 6 else 0))) → CV (d + 30) 351 [137] (mset w 0 0 p) Q := by
    intro p Q hq
    apply c_R_hangingSet
    simp (disch := first | assumption | omega) only [rn, wk, al, wr_e, td_e, tm_e, mset_eq, mset_ne, if_pos, if_neg, Int.reduceAdd, Int.reduceSub, Int.reduceMul, Int.reduceNeg, Int.reduceLT, Int.reduceLE, Int.reduceEq, Int.cast_ofNat_Int, eq_self, and_true, true_and, ite_self, true_or, or_true, false_or, or_false, and_false, false_and, not_true_eq_false, not_false_eq_true, if_true, if_false, e_R_hangingSet_0]
    refine EV_call (CV_mono (q_hangingOf hi _ (e138 p)) ?_)
    rintro r' u ⟨u1, u2⟩
    have er := bs_uniq u2 w2
    subst er
    have qo : sem (d + 29) 314 [137, r'] u = some (r', mset u 137 2 (if r' = -1 then 6 else 0)) := by
      apply CV_eq; apply c_R_orNone
      by_cases c : r' = -1
      · subst c; simp (disch := first | assumption | omega) only [rn, wk, al, wr_e, td_e, tm_e, mset_eq, mset_ne, if_pos, if_neg, Int.reduceAdd, Int.reduceSub, Int.reduceMul, Int.reduceNeg, Int.reduceLT, Int.reduceLE, Int.reduceEq, Int.cast_ofNat_Int, eq_self, and_true, true_and, ite_self, true_or, or_true, false_or, or_false, and_false, false_and, not_true_eq_false, not_false_eq_true, if_true, if_false, e_R_orNone_0, e_R_orNone_14, e_R_orNone_19, q_refuse]
      · simp (disch := first | assumption | omega) only [rn, wk, al, wr_e, td_e, tm_e, mset_eq, mset_ne, if_pos, if_neg, Int.reduceAdd, Int.reduceSub, Int.reduceMul, Int.reduceNeg, Int.reduceLT, Int.reduceLE, Int.reduceEq, Int.cast_ofNat_Int, eq_self, and_true, true_and, ite_self, true_or, or_true, false_or, or_false, and_false, false_and, not_true_eq_false, not_false_eq_true, if_true, if_false, e_R_orNone_0, e_R_orNone_14, e_R_orNone_19, q_gives]
    have := hq u u1
    simp (disch := first | assumption | omega) only [rn, wk, al, wr_e, td_e, tm_e, mset_eq, mset_ne, if_pos, if_neg, Int.reduceAdd, Int.reduceSub, Int.reduceMul, Int.reduceNeg, Int.reduceLT, Int.reduceLE, Int.reduceEq, Int.cast_ofNat_Int, eq_self, and_true, true_and, ite_self, true_or, or_true, false_or, or_false, and_false, false_and, not_true_eq_false, not_false_eq_true, if_true, if_false, qo]
    exact this
  by_cases c : r = -1
  · subst c
    simp (disch := first | assumption | omega) only [rn, wk, al, wr_e, td_e, tm_e, mset_eq, mset_ne, if_pos, if_neg, Int.reduceAdd, Int.reduceSub, Int.reduceMul, Int.reduceNeg, Int.reduceLT, Int.reduceLE, Int.reduceEq, Int.cast_ofNat_Int, eq_self, and_true, true_and, ite_self, true_or, or_true, false_or, or_false, and_false, false_and, not_true_eq_false, not_false_eq_true, if_true, if_false, e_M_hangingSet_0, e_M_hangingSet_37, e_M_hangingSet_42, q_fail]
    refine hR 6 _ (fun u u1 => ⟨rfl, ?_⟩)
    rw [if_pos rfl]
    exact inv_part 6 hi hw rfl u1
  · simp (disch := first | assumption | omega) only [rn, wk, al, wr_e, td_e, tm_e, mset_eq, mset_ne, if_pos, if_neg, Int.reduceAdd, Int.reduceSub, Int.reduceMul, Int.reduceNeg, Int.reduceLT, Int.reduceLE, Int.reduceEq, Int.cast_ofNat_Int, eq_self, and_true, true_and, ite_self, true_or, or_true, false_or, or_false, and_false, false_and, not_true_eq_false, not_false_eq_true, if_true, if_false, e_M_hangingSet_0, e_M_hangingSet_37, e_M_hangingSet_42, q_pass]
    refine hR 0 _ (fun u u1 => ⟨rfl, ?_⟩)
    rw [if_neg c]
    exact inv_part 0 hi hw rfl u1
