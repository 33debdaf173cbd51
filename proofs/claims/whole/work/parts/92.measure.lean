/-! ===== H2: measure ===== -/
theorem lp_ms3 (d : Nat) (h X wo : Int) (s : Mem) (hX : alen X = 49) (hhX : h ≠ X) (A : Mem) (hA : A = win s h) (hp : 0 ≤ A 0 1 ∧ A 0 1 ≤ 7) (hw : VW A) (Q : Int → Mem → Prop) (hQ : ∀ u, Fx s X u → Fpost A wo 1000 10000000 (fun a b => u X (7 * a + b)) → Q 0 u) : ∀ (n : Nat) (k : Int) (u : Mem) (z : Int), 0 ≤ k → k + n = A 0 1 → Fx s X u → FlI A wo 1000 10000000 (fun a b => u X (7 * a + b)) → Edg A wo 1000 (A 0 2) (fun a b => u X (7 * a + b)) → Tri A k (fun a b => u X (7 * a + b)) → EV (d + 2) o_Hall_measure 121 [] [h, wo, X, k, z] u Q := by
  intro n
  have hs : s h 1 = A 0 1 := by rw [hA]; show _ = s (h + 0) 1; rw [Int.add_zero]
  induction n with
  | zero =>
    intro k u z h0 hk hf hI hE hT
    have e1 : u h 1 = A 0 1 := by rw [hf h 1 hhX, hs]
    have ek : k = A 0 1 := by omega
    rw [e_Hall_measure_121]
    simp (disch := first | assumption | omega) only [rn, wk, al, wr_e, td_e, tm_e, mset_eq, mset_ne, if_pos, if_neg, Int.reduceAdd, Int.reduceSub, Int.reduceMul, Int.reduceNeg, Int.reduceLT, Int.reduceLE, Int.reduceEq, Int.cast_ofNat_Int, eq_self, and_true, true_and, ite_self, true_or, or_true, false_or, or_false, and_false, false_and, not_true_eq_false, not_false_eq_true, if_true, if_false, e_Hall_measure_0, e_Hall_measure_31, e_Hall_measure_113, e_Hall_measure_119, e_Hall_measure_141, e1]
    refine hQ u hf (fl_post hw hI hE ?_)
    rw [← ek]; exact hT
  | succ n ih =>
    intro k u z h0 hk hf hI hE hT
    have e1 : u h 1 = A 0 1 := by rw [hf h 1 hhX, hs]
    have hkP : inP A k := ⟨h0, by omega⟩
    rw [e_Hall_measure_121]
    simp (disch := first | assumption | omega) only [rn, wk, al, wr_e, td_e, tm_e, mset_eq, mset_ne, if_pos, if_neg, Int.reduceAdd, Int.reduceSub, Int.reduceMul, Int.reduceNeg, Int.reduceLT, Int.reduceLE, Int.reduceEq, Int.cast_ofNat_Int, eq_self, and_true, true_and, ite_self, true_or, or_true, false_or, or_false, and_false, false_and, not_true_eq_false, not_false_eq_true, if_true, if_false, e1]
    refine EV_call (CV_mono (q_measureBy d h X k u hX hhX A wo 10000000 rfl hp.2 e1 hkP hI) ?_)
    rintro r t ⟨f1, f2⟩
    have f2' : ∀ a b, inP A a → inP A b → (fun a b => t X (7 * a + b)) a b = fl (fun a b => u X (7 * a + b)) k a b := f2
    refine ih (k + 1) t z (by omega) (by omega) (fun c i hc => by rw [f1 c i hc, hf c i hc]) (FlI_congr f2' (fl_I hI hkP)) (Edg_congr hw (Int.le_refl _) f2' (fl_E hE)) (Tri_congr (by omega) f2' (fl_T hI hkP hT))
theorem lp_ms2 (d : Nat) (h X wo : Int) (hh : isH h) (s : Mem) (hX : alen X = 49) (hhX : ¬ (h ≤ X ∧ X ≤ h + 4)) (A : Mem) (hA : A = win s h) (hp : 0 ≤ A 0 1 ∧ A 0 1 ≤ 7) (h10 : 0 ≤ A 0 2 ∧ A 0 2 ≤ 10) (hw : VW A) (Q : Int → Mem → Prop) (hQ : ∀ u, Fx s X u → Fpost A wo 1000 10000000 (fun a b => u X (7 * a + b)) → Q 0 u) : ∀ (n : Nat) (w : Int) (u : Mem) (z : Int), 0 ≤ w → w + n = A 0 2 → Fx s X u → FlI A wo 1000 10000000 (fun a b => u X (7 * a + b)) → Edg A wo 1000 w (fun a b => u X (7 * a + b)) → EV (d + 2) o_Hall_measure 33 [] [h, wo, X, w, z] u Q := by
  intro n
  have hs : ∀ k i, A k i = s (h + k) i := by intro k i; rw [hA]; rfl
  have hs2 : s h 2 = A 0 2 := by rw [hs]; rw [Int.add_zero]
  induction n with
  | zero =>
    intro w u z h0 hk hf hI hE
    have e1 : u h 2 = A 0 2 := by rw [hf h 2 (by omega), hs2]
    have ew : w = A 0 2 := by omega
    rw [e_Hall_measure_33]
    simp (disch := first | assumption | omega) only [rn, wk, al, wr_e, td_e, tm_e, mset_eq, mset_ne, if_pos, if_neg, Int.reduceAdd, Int.reduceSub, Int.reduceMul, Int.reduceNeg, Int.reduceLT, Int.reduceLE, Int.reduceEq, Int.cast_ofNat_Int, eq_self, and_true, true_and, ite_self, true_or, or_true, false_or, or_false, and_false, false_and, not_true_eq_false, not_false_eq_true, if_true, if_false, e_Hall_measure_0, e_Hall_measure_31, e_Hall_measure_113, e_Hall_measure_119, e_Hall_measure_141, e1]
    refine lp_ms3 d h X wo s hX (by omega) A hA hp hw Q hQ (A 0 1).toNat 0 u z (by omega) (by omega) hf hI (by rw [← ew]; exact hE) ?_
    intro c hc; omega
  | succ n ih =>
    intro w u z h0 hk hf hI hE
    have e1 : u h 2 = A 0 2 := by rw [hf h 2 (by omega), hs2]
    have g1 : ∀ i, u (h + 2) i = A 2 i := fun i => by rw [hf (h + 2) i (by omega), hs]
    have g2 : ∀ i, u (h + 3) i = A 3 i := fun i => by rw [hf (h + 3) i (by omega), hs]
    have g3 : ∀ i, u (h + 4) i = A 4 i := fun i => by rw [hf (h + 4) i (by omega), hs]
    rw [e_Hall_measure_33]
    by_cases c : w = wo
    · simp (disch := first | assumption | omega) only [rn, wk, al, wr_e, td_e, tm_e, mset_eq, mset_ne, if_pos, if_neg, Int.reduceAdd, Int.reduceSub, Int.reduceMul, Int.reduceNeg, Int.reduceLT, Int.reduceLE, Int.reduceEq, Int.cast_ofNat_Int, eq_self, and_true, true_and, ite_self, true_or, or_true, false_or, or_false, and_false, false_and, not_true_eq_false, not_false_eq_true, if_true, if_false, e_Hall_measure_0, e_Hall_measure_31, e_Hall_measure_113, e_Hall_measure_119, e_Hall_measure_141, e1]
      exact ih (w + 1) u _ (by omega) (by omega) hf hI (by subst c; exact skip_E hE)
    · have hv := hw w (by omega)
      have m1 : ∀ v, mset u X (7 * A 2 (2 * w) + A 2 (2 * w + 1)) v (h + 2) = u (h + 2) := fun v => mset_nc (by omega)
      have e5 : A 3 w * 1000 = 1000 * A 3 w := by omega
      simp (disch := first | assumption | omega) only [rn, wk, al, wr_e, td_e, tm_e, mset_eq, mset_ne, if_pos, if_neg, Int.reduceAdd, Int.reduceSub, Int.reduceMul, Int.reduceNeg, Int.reduceLT, Int.reduceLE, Int.reduceEq, Int.cast_ofNat_Int, eq_self, and_true, true_and, ite_self, true_or, or_true, false_or, or_false, and_false, false_and, not_true_eq_false, not_false_eq_true, if_true, if_false, e_Hall_measure_0, e_Hall_measure_31, e_Hall_measure_113, e_Hall_measure_119, e_Hall_measure_141, e1, ah hh, g1, g2, g3, m1, e5, q_shorten _ X]
      have i1 : 0 ≤ u X (7 * A 2 (2 * w) + A 2 (2 * w + 1)) ∧ u X (7 * A 2 (2 * w) + A 2 (2 * w + 1)) ≤ 10000000 := hI.1 _ _ hv.1 hv.2.1
      have hD : ∀ a b, inP A a → inP A b → (fun a b => (mset (mset u X (7 * A 2 (2 * w) + A 2 (2 * w + 1)) (min (u X (7 * A 2 (2 * w) + A 2 (2 * w + 1))) (1000 * A 3 w + A 4 w))) X (7 * A 2 (2 * w + 1) + A 2 (2 * w)) (min (u X (7 * A 2 (2 * w + 1) + A 2 (2 * w))) (1000 * A 3 w + A 4 w))) X (7 * a + b)) a b = sho (fun a b => u X (7 * a + b)) (A 2 (2 * w)) (A 2 (2 * w + 1)) (1000 * A 3 w + A 4 w) a b := by
        intro a b ha hb
        unfold inP at ha hb
        simp only [sho]
        by_cases e1 : a = A 2 (2 * w) ∧ b = A 2 (2 * w + 1)
        · rw [mset_ne (by omega), mset_eq rfl (by omega), if_pos (Or.inl e1), e1.1, e1.2]
        · by_cases e2 : a = A 2 (2 * w + 1) ∧ b = A 2 (2 * w)
          · rw [mset_eq rfl (by omega), if_pos (Or.inr e2), e2.1, e2.2]
          · rw [mset_ne (by omega), mset_ne (by omega), if_neg (by omega)]
      refine ih (w + 1) _ _ (by omega) (by omega) (Fx_set (Fx_set hf)) (FlI_congr hD (sho_I hw (by omega) hI (by omega))) (Edg_congr hw (by omega) hD (sho_E hE))
theorem lp_ms1 (d : Nat) (h X wo : Int) (s : Mem) (hX : alen X = 49) (hhX : h ≠ X) (P : Int) (hs : s h 1 = P) (hp : 0 ≤ P ∧ P ≤ 7) (Q : Int → Mem → Prop) (hQ : ∀ u z, Fx s X u → (∀ a b, 0 ≤ a ∧ a < P → 0 ≤ b ∧ b < P → u X (7 * a + b) = if a = b then 0 else 10000000) → EV (d + 2) o_Hall_measure 31 [] [h, wo, X, P, z] u Q) : ∀ (n : Nat) (k : Int) (u : Mem) (z : Int), 0 ≤ k → k + n = P → Fx s X u → (∀ a b, 0 ≤ a ∧ a < P → 0 ≤ b ∧ b < P → u X (7 * a + b) = if a = b ∧ a < k then 0 else 10000000) → EV (d + 2) o_Hall_measure 8 [] [h, wo, X, k, z] u Q := by
  intro n
  induction n with
  | zero =>
    intro k u z h0 hk hf hu
    have e1 : u h 1 = P := by rw [hf h 1 hhX, hs]
    have ek : k = P := by omega
    subst ek
    rw [e_Hall_measure_8]
    simp (disch := first | assumption | omega) only [rn, wk, al, wr_e, td_e, tm_e, mset_eq, mset_ne, if_pos, if_neg, Int.reduceAdd, Int.reduceSub, Int.reduceMul, Int.reduceNeg, Int.reduceLT, Int.reduceLE, Int.reduceEq, Int.cast_ofNat_Int, eq_self, and_true, true_and, ite_self, true_or, or_true, false_or, or_false, and_false, false_and, not_true_eq_false, not_false_eq_true, if_true, if_false, e1]
    refine hQ u z hf ?_
    intro a b ha hb
    rw [hu a b ha hb]
    by_cases c : a = b
    · rw [if_pos (by omega), if_pos c]
    · rw [if_neg (by omega), if_neg c]
  | succ n ih =>
    intro k u z h0 hk hf hu
    have e1 : u h 1 = P := by rw [hf h 1 hhX, hs]
    have e7 : k * 7 + k = 7 * k + k := by omega
    rw [e_Hall_measure_8]
    simp (disch := first | assumption | omega) only [rn, wk, al, wr_e, td_e, tm_e, mset_eq, mset_ne, if_pos, if_neg, Int.reduceAdd, Int.reduceSub, Int.reduceMul, Int.reduceNeg, Int.reduceLT, Int.reduceLE, Int.reduceEq, Int.cast_ofNat_Int, eq_self, and_true, true_and, ite_self, true_or, or_true, false_or, or_false, and_false, false_and, not_true_eq_false, not_false_eq_true, if_true, if_false, e1, hX, e7]
    refine ih (k + 1) _ z (by omega) (by omega) (Fx_set hf) ?_
    intro a b ha hb
    by_cases c : a = k ∧ b = k
    · rw [mset_eq rfl (by omega), if_pos (by omega)]
    · rw [mset_ne (by omega), hu a b ha hb]
      by_cases c2 : a = b ∧ a < k
      · rw [if_pos c2, if_pos (by omega)]
      · rw [if_neg c2, if_neg (by omega)]
theorem q_measure (d : Nat) {h : Int} (hh : isH h) (X wo : Int) (s : Mem) (hX : alen X = 49) (hhX : ¬ (h ≤ X ∧ X ≤ h + 4)) (hc : VC (win s h)) (hw : VW (win s h)) : CV (d + 3) 30 [h, wo, X] s fun _ u => Fx s X u ∧ Fpost (win s h) wo 1000 10000000 (fun a b => u X (7 * a + b)) := by
  obtain ⟨-, hp, h10, -⟩ := hc
  have e0 : win s h 0 1 = s h 1 := by show s (h + 0) 1 = _; rw [Int.add_zero]
  have e02 : win s h 0 2 = s h 2 := by show s (h + 0) 2 = _; rw [Int.add_zero]
  apply c_Hall_measure
  simp (disch := first | assumption | omega) only [rn, wk, al, wr_e, td_e, tm_e, mset_eq, mset_ne, if_pos, if_neg, Int.reduceAdd, Int.reduceSub, Int.reduceMul, Int.reduceNeg, Int.reduceLT, Int.reduceLE, Int.reduceEq, Int.cast_ofNat_Int, eq_self, and_true, true_and, ite_self, true_or, or_true, false_or, or_false, and_false, false_and, not_true_eq_false, not_false_eq_true, if_true, if_false, e_Hall_measure_0, e_Hall_measure_31, e_Hall_measure_113, e_Hall_measure_119, e_Hall_measure_141, q_fill, hX]
  have F1 : Fx s X (fil s X 49 10000000) := by intro c i hc; rw [fil_out (by omega)]
  refine lp_ms1 d h X wo s hX (by omega) (s h 1) rfl (by omega) _ ?_ (s h 1).toNat 0 _ 0 (by omega) (by omega) F1 ?_
  · intro u z hf hu
    simp (disch := first | assumption | omega) only [rn, wk, al, wr_e, td_e, tm_e, mset_eq, mset_ne, if_pos, if_neg, Int.reduceAdd, Int.reduceSub, Int.reduceMul, Int.reduceNeg, Int.reduceLT, Int.reduceLE, Int.reduceEq, Int.cast_ofNat_Int, eq_self, and_true, true_and, ite_self, true_or, or_true, false_or, or_false, and_false, false_and, not_true_eq_false, not_false_eq_true, if_true, if_false, e_Hall_measure_0, e_Hall_measure_31, e_Hall_measure_113, e_Hall_measure_119, e_Hall_measure_141]
    refine lp_ms2 d h X wo hh s hX hhX (win s h) rfl hp h10 hw _ (fun u h1 h2 => ⟨h1, h2⟩) (s h 2).toNat 0 u z (by omega) (by omega) hf ?_ ?_
    · have hu' : ∀ a b, inP (win s h) a → inP (win s h) b → u X (7 * a + b) = if a = b then 0 else 10000000 := by
        intro a b ha hb
        unfold inP at ha hb
        exact hu a b (by omega) (by omega)
      refine ⟨?_, ?_, ?_⟩
      · intro a b ha hb
        show 0 ≤ u X (7 * a + b) ∧ u X (7 * a + b) ≤ _
        rw [hu' a b ha hb]; split <;> omega
      · intro a ha
        show u X (7 * a + a) = 0
        rw [hu' a a ha ha, if_pos rfl]
      · intro a b ha hb hlt
        have hlt : u X (7 * a + b) < 10000000 := hlt
        show ∃ n x y, _ ∧ u X (7 * a + b) = 1000 * x + y
        rw [hu' a b ha hb] at hlt ⊢
        by_cases c : a = b
        · rw [if_pos c]; exact ⟨0, 0, 0, ⟨c, rfl, rfl⟩, by omega⟩
        · rw [if_neg c] at hlt; omega
    · intro w hw'; omega
  · intro a b ha hb
    rw [fil_in rfl (by omega), if_neg (by omega)]
