/-! ===== H2: which way was changed: the class takes calls out of what is recorded ===== -/
/-- what is heard of the call v at the beat b by a distance D -/
def ptd (A : Mem) (D v b : Int) : Int := if D < 10000000 ∧ 0 ≤ b - v % 21 - D / 1000 ∧ b - v % 21 - D / 1000 < 3 then max 0 (A 8 (3 * (v / 21) + (b - v % 21 - D / 1000)) - D % 1000) else 0
theorem pt_ptd (A : Mem) (v x b : Int) : pt A v x b = ptd A (dP A (v / 63) (A 5 x)) v b := by
  unfold pt ptd aP bP
  rw [show v / 21 / 3 = v / 63 by omega]
  generalize dP A (v / 63) (A 5 x) = D
  by_cases c : D < 10000000
  · by_cases c2 : 0 ≤ b - v % 21 - D / 1000 ∧ b - v % 21 - D / 1000 < 3
    · rw [if_pos c2, if_pos c, if_pos ⟨c, c2⟩]
    · rw [if_neg c2, if_neg (fun h => c2 h.2)]
  · rw [if_neg (fun h : D < 10000000 ∧ 0 ≤ b - v % 21 - D / 1000 ∧ b - v % 21 - D / 1000 < 3 => c h.1), if_neg c]
    split <;> rfl
/-- a distance that may be -/
def okD (D : Int) : Prop := 10000000 ≤ D ∨ ∃ x y, D = 1000 * x + y ∧ (0 ≤ x ∧ x ≤ 54) ∧ (0 ≤ y ∧ y ≤ 54)
def Ex (A : Mem) (f : Int → Int → Int) : Prop := ∀ x b, 0 ≤ x ∧ x < 4 → 0 ≤ b ∧ b < 91 → (if x < A 0 3 then sg (fun k => ptd A (f k x) (A 9 k) b) 0 (A 0 5).toNat else 0) = A 10 (4 * b + x)
/-- all but what the search for moved ways works with is as it was -/
def Fg (s u : Mem) : Prop := ∀ c i, c ≠ 26 → c ≠ 27 → c ≠ 28 → ¬ (c = 24 ∧ (i = 4 ∨ i = 5)) → u c i = s c i
/-- the cells that the class has touched so far, and the flag -/
def tkI (u t : Mem) (g : Int → Int) (x bgn i f : Int) : Prop := Fg u t ∧ t 24 5 = u 24 5 + i ∧ (∀ j, j < u 24 5 → t 27 j = u 27 j ∧ t 28 j = u 28 j) ∧ (∀ j, 0 ≤ j ∧ j < i → t 27 (u 24 5 + j) = 4 * (bgn + j) + x ∧ t 28 (u 24 5 + j) = g j) ∧ (∀ x' b', 0 ≤ x' ∧ x' < 4 → t 26 (4 * b' + x') = u 26 (4 * b' + x') - (if x' = x ∧ bgn ≤ b' ∧ b' < bgn + i then g (b' - bgn) else 0)) ∧ t 24 4 = u 24 4 - sg g 0 i.toNat ∧ ((f = 1 ∧ ∀ j, 0 ≤ j ∧ j < i → 0 ≤ t 26 (4 * (bgn + j) + x)) ∨ (f = 0 ∧ ∃ j, (0 ≤ j ∧ j < 364) ∧ t 26 j < 0))
theorem lp_takes (d : Nat) (u : Mem) (g : Int → Int) (k x D bgn q b : Int) (hx : 0 ≤ x ∧ x < 4) (hbg : 0 ≤ bgn ∧ bgn ≤ 74) (hD : 0 ≤ D ∧ D % 1000 = b) (hg : ∀ i, 0 ≤ i ∧ i < 3 → 0 ≤ g i ∧ g i ≤ 99) (hm : 0 ≤ u 24 5 ∧ u 24 5 ≤ 93) (hl : ∀ j, 0 ≤ j ∧ j < 364 → -1000000 ≤ u 26 j ∧ u 26 j ≤ 1000000) (hlt : -1000000 ≤ u 24 4 ∧ u 24 4 ≤ 1000000) (rows : ∀ t : Mem, Fg u t → sem (d + 2) 99 [37, k] t = some (q, t) ∧ ∀ i, 0 ≤ i ∧ i < 3 → sem (d + 2) 119 [37, q, i, b] t = some (g i, t)) (Q : Int → Mem → Prop) (hQ : ∀ r t, tkI u t g x bgn 3 r → Q r t) : ∀ (n : Nat) (i : Nat) (t : Mem) (f z1 z2 : Int), i + n = 3 → tkI u t g x bgn i f → EV (d + 2) o_Moves_takes 19 [] [24, 37, k, x, D, bgn, f, i, z1, z2] t Q := by
  intro n
  induction n with
  | zero =>
    intro i t f z1 z2 hi ht
    have ei : i = 3 := by omega
    subst ei
    have hq := hQ f t ht
    have hf : f = 0 ∨ f = 1 := by
      obtain ⟨-, -, -, -, -, -, h⟩ := ht
      rcases h with h | h
      · exact Or.inr h.1
      · exact Or.inl h.1
    rw [e_Moves_takes_19]
    simp (disch := first | assumption | omega) only [rn, wk, al, wr_e, td_e, tm_e, mset_eq, mset_ne, if_pos, if_neg, Int.reduceAdd, Int.reduceSub, Int.reduceMul, Int.reduceNeg, Int.reduceLT, Int.reduceLE, Int.reduceEq, Int.cast_ofNat_Int, eq_self, and_true, true_and, ite_self, true_or, or_true, false_or, or_false, and_false, false_and, not_true_eq_false, not_false_eq_true, if_true, if_false, e_Moves_takes_0, e_Moves_takes_128, e_Moves_takes_129, e_Moves_takes_137]
    exact hq
  | succ n ih =>
    intro i t f z1 z2 hi ht
    obtain ⟨t1, t2, t3, t4, t5, t6, t7⟩ := ht
    obtain ⟨r1, r2⟩ := rows t t1
    have r3 := r2 i (by omega)
    have gi := hg i (by omega)
    have hs := sg_bd (f := g) (m := 99) i 0 (fun j a c => hg j (by omega))
    rw [show ((i : Int)).toNat = i by omega] at t6
    have hcell := t5 x (bgn + i) hx
    rw [if_neg (by omega), Int.sub_zero] at hcell
    have hlc := hl (4 * (bgn + i) + x) (by omega)
    generalize hG : g i = G at *
    have step : ∀ f', ((f' = 1 ∧ f = 1 ∧ 0 ≤ u 26 (4 * (bgn + i) + x) - G) ∨ (f' = 0 ∧ (f = 0 ∨ u 26 (4 * (bgn + i) + x) - G < 0))) → EV (d + 2) o_Moves_takes 19 [] [24, 37, k, x, D, bgn, f', (i : Int) + 1, G, 4 * (bgn + i) + x] (mset (mset (mset (mset (mset t 26 (4 * (bgn + i) + x) (u 26 (4 * (bgn + i) + x) - G)) 24 4 (t 24 4 - G)) 27 (u 24 5 + i) (4 * (bgn + i) + x)) 28 (u 24 5 + i) G) 24 5 (u 24 5 + i + 1)) Q := by
      intro f' hf'
      have hx2 := ih (i + 1) (mset (mset (mset (mset (mset t 26 (4 * (bgn + i) + x) (u 26 (4 * (bgn + i) + x) - G)) 24 4 (t 24 4 - G)) 27 (u 24 5 + i) (4 * (bgn + i) + x)) 28 (u 24 5 + i) G) 24 5 (u 24 5 + i + 1)) f' G (4 * (bgn + i) + x) (by omega) (by
        refine ⟨?_, ?_, ?_, ?_, ?_, ?_, ?_⟩
        · intro c j y1 y2 y3 y4
          simp (disch := omega) only [mset_ne]
          exact t1 c j y1 y2 y3 y4
        · simp (disch := omega) only [mset_eq]; omega
        · intro j hj
          simp (disch := omega) only [mset_ne]
          exact t3 j hj
        · intro j hj
          by_cases e : j = i
          · subst e
            simp (disch := omega) only [mset_ne, mset_eq]
            exact ⟨trivial, hG.symm⟩
          · simp (disch := omega) only [mset_ne]
            exact t4 j (by omega)
        · intro x' b' hx'
          by_cases e : x' = x ∧ b' = bgn + i
          · obtain ⟨rfl, rfl⟩ := e
            rw [mset_ne (by omega), mset_ne (by omega), mset_ne (by omega), mset_ne (by omega), mset_eq rfl rfl, if_pos (by omega), show bgn + (i : Int) - bgn = i by omega, hG]
          · simp (disch := omega) only [mset_ne]
            rw [t5 x' b' hx']
            by_cases c : x' = x ∧ bgn ≤ b' ∧ b' < bgn + i
            · rw [if_pos c, if_pos (by omega)]
            · rw [if_neg c, if_neg (by omega)]
        · simp (disch := omega) only [mset_ne, mset_eq]
          rw [show (((i + 1 : Nat) : Int)).toNat = i + 1 by omega, sg_last, Int.zero_add, hG, t6]; omega
        · rcases hf' with ⟨y1, y2, y3⟩ | ⟨y1, y2⟩
          · refine Or.inl ⟨y1, fun j hj => ?_⟩
            by_cases e : j = i
            · subst e; simp (disch := omega) only [mset_ne, mset_eq]; exact y3
            · simp (disch := omega) only [mset_ne]
              rcases t7 with z | z
              · exact z.2 j (by omega)
              · omega
          · refine Or.inr ⟨y1, ?_⟩
            by_cases c : u 26 (4 * (bgn + i) + x) - G < 0
            · exact ⟨4 * (bgn + i) + x, by omega, by simp (disch := omega) only [mset_ne, mset_eq]; exact c⟩
            · rcases t7 with z | ⟨z1, j, z2, z3⟩
              · omega
              · refine ⟨j, z2, ?_⟩
                by_cases e : j = 4 * (bgn + i) + x
                · rw [e, hcell] at z3; omega
                · simp (disch := omega) only [mset_ne]; exact z3)
      rw [show ((i + 1 : Nat) : Int) = (i : Int) + 1 by omega] at hx2
      exact hx2
    rw [e_Moves_takes_19]
    rcases t7 with ⟨z1, -⟩ | ⟨z1, -⟩
    · subst z1
      by_cases cn : u 26 (4 * (bgn + i) + x) - G < 0
      · have hf3 := step 0 (Or.inr ⟨rfl, Or.inr cn⟩)
        simp (disch := first | assumption | omega) only [rn, wk, al, wr_e, td_e, tm_e, mset_eq, mset_ne, if_pos, if_neg, Int.reduceAdd, Int.reduceSub, Int.reduceMul, Int.reduceNeg, Int.reduceLT, Int.reduceLE, Int.reduceEq, Int.cast_ofNat_Int, eq_self, and_true, true_and, ite_self, true_or, or_true, false_or, or_false, and_false, false_and, not_true_eq_false, not_false_eq_true, if_true, if_false, r1, q_lossOf, hD.2, r3, q_cellOf, hcell, t2, t6, e_Moves_takes_128, e_Moves_takes_129]
        rw [t6] at hf3
        exact hf3
      · have hf3 := step 1 (Or.inl ⟨rfl, rfl, by omega⟩)
        simp (disch := first | assumption | omega) only [rn, wk, al, wr_e, td_e, tm_e, mset_eq, mset_ne, if_pos, if_neg, Int.reduceAdd, Int.reduceSub, Int.reduceMul, Int.reduceNeg, Int.reduceLT, Int.reduceLE, Int.reduceEq, Int.cast_ofNat_Int, eq_self, and_true, true_and, ite_self, true_or, or_true, false_or, or_false, and_false, false_and, not_true_eq_false, not_false_eq_true, if_true, if_false, r1, q_lossOf, hD.2, r3, q_cellOf, hcell, t2, t6, e_Moves_takes_128, e_Moves_takes_129]
        rw [t6] at hf3
        exact hf3
    · subst z1
      have hf3 := step 0 (Or.inr ⟨rfl, Or.inl rfl⟩)
      simp (disch := first | assumption | omega) only [rn, wk, al, wr_e, td_e, tm_e, mset_eq, mset_ne, if_pos, if_neg, Int.reduceAdd, Int.reduceSub, Int.reduceMul, Int.reduceNeg, Int.reduceLT, Int.reduceLE, Int.reduceEq, Int.cast_ofNat_Int, eq_self, and_true, true_and, ite_self, true_or, or_true, false_or, or_false, and_false, false_and, not_true_eq_false, not_false_eq_true, if_true, if_false, r1, q_lossOf, hD.2, r3, q_cellOf, hcell, t2, t6, e_Moves_takes_128, e_Moves_takes_129]
      rw [t6] at hf3
      exact hf3
theorem q_takes (d : Nat) (A u : Mem) (hv : VB A) (hk : vKs A) (hA : ∀ k, 0 ≤ k → k < 20 → win u 37 k = A k) (k x D a b : Int) (hk1 : 0 ≤ k ∧ k < A 0 5) (hx : 0 ≤ x ∧ x < 4) (hD : D = 1000 * a + b) (ha : 0 ≤ a ∧ a ≤ 54) (hb : 0 ≤ b ∧ b ≤ 54) (hm : 0 ≤ u 24 5 ∧ u 24 5 ≤ 93) (hl : ∀ j, 0 ≤ j ∧ j < 364 → -1000000 ≤ u 26 j ∧ u 26 j ≤ 1000000) (hlt : -1000000 ≤ u 24 4 ∧ u 24 4 ≤ 1000000) : CV (d + 3) 166 [24, 37, k, x, D] u fun r t => tkI u t (fun i => max 0 (A 8 (3 * (A 9 k / 21) + i) - b)) x (A 9 k % 21 + a) 3 r := by
  have h1 := hv.1
  unfold VC at h1
  have hvk := hk k hk1
  have hq := hvk.2.2
  have hv0 := hvk.1
  have hv1 := hvk.2.1
  have g9 : ∀ t : Mem, Fg u t → ∀ j, t 46 j = A 9 j := fun t ht j => by rw [ht _ _ (by omega) (by omega) (by omega) (by omega), ← hA 9 (by omega) (by omega)]; rfl
  have g8 : ∀ t : Mem, Fg u t → ∀ j, t 45 j = A 8 j := fun t ht j => by rw [ht _ _ (by omega) (by omega) (by omega) (by omega), ← hA 8 (by omega) (by omega)]; rfl
  have hF0 : Fg u u := fun _ _ _ _ _ _ => rfl
  have q2 := q_startOf (d + 1) isH37 k u (by omega) (by simp only [Int.reduceAdd]; rw [g9 u hF0]; omega)
  simp only [Int.reduceAdd, g9 u hF0] at q2
  have ed : D / 1000 = a := by omega
  apply c_Moves_takes
  simp (disch := first | assumption | omega) only [rn, wk, al, wr_e, td_e, tm_e, mset_eq, mset_ne, if_pos, if_neg, Int.reduceAdd, Int.reduceSub, Int.reduceMul, Int.reduceNeg, Int.reduceLT, Int.reduceLE, Int.reduceEq, Int.cast_ofNat_Int, eq_self, and_true, true_and, ite_self, true_or, or_true, false_or, or_false, and_false, false_and, not_true_eq_false, not_false_eq_true, if_true, if_false, e_Moves_takes_0, e_Moves_takes_128, e_Moves_takes_129, e_Moves_takes_137, q2, q_beatsOf, ed]
  refine lp_takes d u (fun i => max 0 (A 8 (3 * (A 9 k / 21) + i) - b)) k x D (A 9 k % 21 + a) (A 9 k / 21) b hx (by omega) (by omega) ?_ hm hl hlt ?_ _ (fun r t h => h) 3 0 u 1 0 0 (by omega) ?_
  · intro i hi
    have := nb_ok hv hq hi
    show 0 ≤ max 0 (A 8 (3 * (A 9 k / 21) + i) - b) ∧ max 0 (A 8 (3 * (A 9 k / 21) + i) - b) ≤ 99
    omega
  · intro t ht
    have q1 := q_kindOf (d + 1) isH37 k t (by omega) (by simp only [Int.reduceAdd]; rw [g9 t ht]; omega)
    simp only [Int.reduceAdd, g9 t ht] at q1
    refine ⟨q1, fun i hi => ?_⟩
    have hn := nb_ok hv hq hi
    have q3 := q_amount d isH37 (A 9 k / 21) i b t (by omega) hi (by simp only [Int.reduceAdd]; rw [g8 t ht]; exact hn) (by omega)
    simp only [Int.reduceAdd, g8 t ht] at q3
    exact q3
  · refine ⟨hF0, by omega, fun j _ => ⟨rfl, rfl⟩, fun j hj => by omega, fun x' b' _ => ?_, ?_, Or.inl ⟨rfl, fun j hj => by omega⟩⟩
    · rw [if_neg (by omega)]; omega
    · show u 24 4 = u 24 4 - 0; omega
