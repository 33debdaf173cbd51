/-! ===== H2: listen, laterBy, laterOf ===== -/
def fld (A u : Mem) (q p : Int) : Prop := u 32 (7 * q + p) = sh A q p ∧ (sh A q p ≠ 0 → u 33 (7 * q + p) = bn A q p)
def Fp (s u : Mem) : Prop := ∀ c i, c ≠ 32 → c ≠ 33 → u c i = s c i
theorem lp_ls2 (d : Nat) (A s : Mem) (hA : A = win s 37) (hv : VB A) (q : Int) (hq : vQ A q) (Q : Int → Mem → Prop) (hQ : ∀ u, Fp s u → (∀ q' p, vQ A q' → q' < q + 1 → 0 ≤ p ∧ p < A 0 1 → fld A u q' p) → EV (d + 3) o_Parting_listen 61 [] [31, 37, q, q / 3, A 0 1] u Q) : ∀ (n : Nat) (p : Int) (u : Mem), 0 ≤ p → p + n = A 0 1 → Fp s u → (∀ q' p', vQ A q' → q' < q → 0 ≤ p' ∧ p' < A 0 1 → fld A u q' p') → (∀ p', 0 ≤ p' ∧ p' < p → fld A u q p') → EV (d + 3) o_Parting_listen 15 [] [31, 37, q, q / 3, p] u Q := by
  have h1 := hv.1
  unfold VC at h1
  have hqc := vQ_c hq
  have hq' := hq
  unfold vQ at hq'
  have hl := hv.2.2.1 _ hqc
  intro n
  induction n with
  | zero =>
    intro p u h0 hp hf h2 h3
    have ep : p = A 0 1 := by omega
    have g1 : u 37 1 = A 0 1 := by rw [hf _ _ (by omega) (by omega), hA]; rfl
    have hx := hQ u hf (fun q' p' a b c => by
      by_cases e : q' = q
      · subst e; exact h3 p' (by omega)
      · exact h2 q' p' a (by omega) c)
    rw [e_Parting_listen_15]
    simp (disch := first | assumption | omega) only [rn, wk, al, wr_e, td_e, tm_e, mset_eq, mset_ne, if_pos, if_neg, Int.reduceAdd, Int.reduceSub, Int.reduceMul, Int.reduceNeg, Int.reduceLT, Int.reduceLE, Int.reduceEq, Int.cast_ofNat_Int, eq_self, and_true, true_and, ite_self, true_or, or_true, false_or, or_false, and_false, false_and, not_true_eq_false, not_false_eq_true, if_true, if_false, g1]
    rw [ep]; exact hx
  | succ n ih =>
    intro p u h0 hp hf h2 h3
    have g1 : u 37 1 = A 0 1 := by rw [hf _ _ (by omega) (by omega), hA]; rfl
    have g4 : u 37 4 = A 0 4 := by rw [hf _ _ (by omega) (by omega), hA]; rfl
    have g7 : ∀ i, u 44 i = A 7 i := fun i => by rw [hf _ _ (by omega) (by omega), hA]; rfl
    have g6 : ∀ i, u 43 i = A 6 i := fun i => by rw [hf _ _ (by omega) (by omega), hA]; rfl
    have g11 : ∀ i, u 48 i = A 11 i := fun i => by rw [hf _ _ (by omega) (by omega), hA]; rfl
    have qc : sem (d + 3) 65 [37, q / 3, q % 3] u = some (1, u) := by
      rw [q_hasCry (d + 2) isH37 (q / 3) (q % 3) u (by omega)]
      simp only [Int.reduceAdd, g4, g7]
      rw [if_pos (by omega)]
    have qd := q_distance (d + 2) isH37 (A 6 (q / 3)) p u (by omega) (by omega)
    simp only [Int.reduceAdd, g11] at qd
    have hAu : ∀ k, 0 ≤ k → k < 20 → k ≠ 10 → win u 37 k = A k := by
      intro k a b c
      rw [hA]; funext i; exact hf _ _ (by omega) (by omega)
    rw [e_Parting_listen_15]
    simp (disch := first | assumption | omega) only [rn, wk, al, wr_e, td_e, tm_e, mset_eq, mset_ne, if_pos, if_neg, Int.reduceAdd, Int.reduceSub, Int.reduceMul, Int.reduceNeg, Int.reduceLT, Int.reduceLE, Int.reduceEq, Int.cast_ofNat_Int, eq_self, and_true, true_and, ite_self, true_or, or_true, false_or, or_false, and_false, false_and, not_true_eq_false, not_false_eq_true, if_true, if_false, g1, qc, g6, qd]
    have hvu := VB_congr hAu hv
    have e0 : win u 37 0 = A 0 := hAu 0 (by omega) (by omega) (by omega)
    have e7 : win u 37 7 = A 7 := hAu 7 (by omega) (by omega) (by omega)
    have hqu : vQ (win u 37) q := by unfold vQ; rw [e0, e7]; exact hq
    have hla := q_listenAt d (win u 37) u rfl hvu q p hqu (by rw [e0]; omega)
    have ea : ∀ i, aP (win u 37) q p i = aP A q p i := aP_congr hAu q p
    have ed : dP (win u 37) (q / 3) p = dP A (q / 3) p := dP_congr hAu _ _
    have es : sh (win u 37) q p = sh A q p := by unfold sh; simp only [ea]
    have eb : bn (win u 37) q p = bn A q p := by unfold bn bP; simp only [ea, ed]
    rw [ed, es, eb] at hla
    refine EV_call (CV_mono hla ?_)
    rintro r t ⟨t1, t2, t3⟩
    refine ih (p + 1) t (by omega) (by omega) (fun c i a b => by rw [t1 c i (by omega) (by omega), hf c i a b]) ?_ ?_
    · intro q' p' a b c
      unfold vQ at a
      have := h2 q' p' a b c
      unfold fld at this ⊢
      rw [t1 _ _ (by omega) (by omega), t1 _ _ (by omega) (by omega)]; exact this
    · intro p' hp'
      by_cases e : p' = p
      · subst e; exact ⟨t2, t3⟩
      · have := h3 p' (by omega)
        unfold fld at this ⊢
        rw [t1 _ _ (by omega) (by omega), t1 _ _ (by omega) (by omega)]; exact this
theorem lp_ls1 (d : Nat) (A s : Mem) (hA : A = win s 37) (hv : VB A) (Q : Int → Mem → Prop) (hQ : ∀ u, Fp s u → (∀ q p, vQ A q → 0 ≤ p ∧ p < A 0 1 → fld A u q p) → Q 0 u) : ∀ (n : Nat) (q : Int) (u : Mem) (z1 z2 : Int), 0 ≤ q → q + n = 15 → Fp s u → (∀ q' p', vQ A q' → q' < q → 0 ≤ p' ∧ p' < A 0 1 → fld A u q' p') → EV (d + 3) o_Parting_listen 2 [] [31, 37, q, z1, z2] u Q := by
  have h1 := hv.1
  unfold VC at h1
  intro n
  induction n with
  | zero =>
    intro q u z1 z2 h0 hq hf h2
    rw [e_Parting_listen_2]
    simp (disch := first | assumption | omega) only [rn, wk, al, wr_e, td_e, tm_e, mset_eq, mset_ne, if_pos, if_neg, Int.reduceAdd, Int.reduceSub, Int.reduceMul, Int.reduceNeg, Int.reduceLT, Int.reduceLE, Int.reduceEq, Int.cast_ofNat_Int, eq_self, and_true, true_and, ite_self, true_or, or_true, false_or, or_false, and_false, false_and, not_true_eq_false, not_false_eq_true, if_true, if_false, e_Parting_listen_0, e_Parting_listen_61, e_Parting_listen_67]
    refine hQ u hf (fun q' p' a b => h2 q' p' a ?_ b)
    unfold vQ at a; omega
  | succ n ih =>
    intro q u z1 z2 h0 hq hf h2
    rw [e_Parting_listen_2]
    simp (disch := first | assumption | omega) only [rn, wk, al, wr_e, td_e, tm_e, mset_eq, mset_ne, if_pos, if_neg, Int.reduceAdd, Int.reduceSub, Int.reduceMul, Int.reduceNeg, Int.reduceLT, Int.reduceLE, Int.reduceEq, Int.cast_ofNat_Int, eq_self, and_true, true_and, ite_self, true_or, or_true, false_or, or_false, and_false, false_and, not_true_eq_false, not_false_eq_true, if_true, if_false]
    by_cases c : vQ A q
    · refine lp_ls2 d A s hA hv q c Q ?_ (A 0 1).toNat 0 u (by omega) (by omega) hf h2 (fun p' hp' => by omega)
      intro t t1 t2
      simp (disch := first | assumption | omega) only [rn, wk, al, wr_e, td_e, tm_e, mset_eq, mset_ne, if_pos, if_neg, Int.reduceAdd, Int.reduceSub, Int.reduceMul, Int.reduceNeg, Int.reduceLT, Int.reduceLE, Int.reduceEq, Int.cast_ofNat_Int, eq_self, and_true, true_and, ite_self, true_or, or_true, false_or, or_false, and_false, false_and, not_true_eq_false, not_false_eq_true, if_true, if_false, e_Parting_listen_0, e_Parting_listen_61, e_Parting_listen_67]
      exact ih (q + 1) t _ _ (by omega) (by omega) t1 t2
    · have g1 : u 37 1 = A 0 1 := by rw [hf _ _ (by omega) (by omega), hA]; rfl
      have g4 : u 37 4 = A 0 4 := by rw [hf _ _ (by omega) (by omega), hA]; rfl
      have g7 : ∀ i, u 44 i = A 7 i := fun i => by rw [hf _ _ (by omega) (by omega), hA]; rfl
      have qc : sem (d + 3) 65 [37, q / 3, q % 3] u = some (0, u) := by
        rw [q_hasCry (d + 2) isH37 (q / 3) (q % 3) u (by omega)]
        simp only [Int.reduceAdd, g4, g7]
        unfold vQ at c
        rw [if_neg (by omega)]
      have hx := ih (q + 1) u (q / 3) 0 (by omega) (by omega) hf (fun q' p' a b e => h2 q' p' a (by
        by_cases e : q' = q
        · subst e; exact absurd a c
        · omega) e)
      rw [e_Parting_listen_15]
      by_cases c2 : A 0 1 ≤ 0
      · simp (disch := first | assumption | omega) only [rn, wk, al, wr_e, td_e, tm_e, mset_eq, mset_ne, if_pos, if_neg, Int.reduceAdd, Int.reduceSub, Int.reduceMul, Int.reduceNeg, Int.reduceLT, Int.reduceLE, Int.reduceEq, Int.cast_ofNat_Int, eq_self, and_true, true_and, ite_self, true_or, or_true, false_or, or_false, and_false, false_and, not_true_eq_false, not_false_eq_true, if_true, if_false, e_Parting_listen_0, e_Parting_listen_61, e_Parting_listen_67, g1]
        exact hx
      · simp (disch := first | assumption | omega) only [rn, wk, al, wr_e, td_e, tm_e, mset_eq, mset_ne, if_pos, if_neg, Int.reduceAdd, Int.reduceSub, Int.reduceMul, Int.reduceNeg, Int.reduceLT, Int.reduceLE, Int.reduceEq, Int.cast_ofNat_Int, eq_self, and_true, true_and, ite_self, true_or, or_true, false_or, or_false, and_false, false_and, not_true_eq_false, not_false_eq_true, if_true, if_false, e_Parting_listen_0, e_Parting_listen_61, e_Parting_listen_67, g1, qc]
        exact hx
theorem q_listen (d : Nat) (A s : Mem) (hA : A = win s 37) (hv : VB A) : CV (d + 4) 172 [31, 37] s fun _ u => Fp s u ∧ ∀ q p, vQ A q → 0 ≤ p ∧ p < A 0 1 → fld A u q p := by
  apply c_Parting_listen
  simp (disch := first | assumption | omega) only [rn, wk, al, wr_e, td_e, tm_e, mset_eq, mset_ne, if_pos, if_neg, Int.reduceAdd, Int.reduceSub, Int.reduceMul, Int.reduceNeg, Int.reduceLT, Int.reduceLE, Int.reduceEq, Int.cast_ofNat_Int, eq_self, and_true, true_and, ite_self, true_or, or_true, false_or, or_false, and_false, false_and, not_true_eq_false, not_false_eq_true, if_true, if_false, e_Parting_listen_0, e_Parting_listen_61, e_Parting_listen_67]
  exact lp_ls1 d A s hA hv _ (fun u a b => ⟨a, b⟩) 15 0 s 0 0 (by omega) (by omega) (fun _ _ _ _ => rfl) (fun q' p' a b c => by unfold vQ at a; omega)
theorem q_laterAt (d : Nat) (A u : Mem) (hv : VB A) (q q' p : Int) (hq : vQ A q) (hq' : vQ A q') (hp : 0 ≤ p ∧ p < A 0 1) (f1 : fld A u q p) (f2 : fld A u q' p) : sem (d + 1) 177 [31, q, q', p] u = some (lc A q q' p, u) := by
  have h1 := hv.1
  unfold VC at h1
  have a1 := hq.1
  have a2 := hq.2.1
  have a3 := hq'.1
  have a4 := hq'.2.1
  obtain ⟨-, -, n1⟩ := hB_f hv hq hp
  obtain ⟨-, -, n2⟩ := hB_f hv hq' hp
  have e1 : q * 7 = 7 * q := by omega
  have e2 : q' * 7 = 7 * q' := by omega
  apply CV_eq; apply c_Parting_laterAt
  unfold lc
  by_cases c : sh A q p = sh A q' p
  · by_cases c0 : sh A q p = 0
    · simp (disch := first | assumption | omega) only [rn, wk, al, wr_e, td_e, tm_e, mset_eq, mset_ne, if_pos, if_neg, Int.reduceAdd, Int.reduceSub, Int.reduceMul, Int.reduceNeg, Int.reduceLT, Int.reduceLE, Int.reduceEq, Int.cast_ofNat_Int, eq_self, and_true, true_and, ite_self, true_or, or_true, false_or, or_false, and_false, false_and, not_true_eq_false, not_false_eq_true, if_true, if_false, e_Parting_laterAt_0, e_Parting_laterAt_37, e_Parting_laterAt_51, e_Parting_laterAt_83, e_Parting_laterAt_86, e1, e2, f1.1, f2.1, c]
    · have g1 := f1.2 c0
      have g2 := f2.2 (by omega)
      have m1 := n1 c0
      have m2 := n2 (by omega)
      by_cases c2 : -20 ≤ bn A q p - bn A q' p ∧ bn A q p - bn A q' p ≤ 20
      · simp (disch := first | assumption | omega) only [rn, wk, al, wr_e, td_e, tm_e, mset_eq, mset_ne, if_pos, if_neg, Int.reduceAdd, Int.reduceSub, Int.reduceMul, Int.reduceNeg, Int.reduceLT, Int.reduceLE, Int.reduceEq, Int.cast_ofNat_Int, eq_self, and_true, true_and, ite_self, true_or, or_true, false_or, or_false, and_false, false_and, not_true_eq_false, not_false_eq_true, if_true, if_false, e_Parting_laterAt_0, e_Parting_laterAt_37, e_Parting_laterAt_51, e_Parting_laterAt_83, e_Parting_laterAt_86, e1, e2, f1.1, f2.1, c, g1, g2]
        repeat' split
        all_goals first | trivial | omega
      · simp (disch := first | assumption | omega) only [rn, wk, al, wr_e, td_e, tm_e, mset_eq, mset_ne, if_pos, if_neg, Int.reduceAdd, Int.reduceSub, Int.reduceMul, Int.reduceNeg, Int.reduceLT, Int.reduceLE, Int.reduceEq, Int.cast_ofNat_Int, eq_self, and_true, true_and, ite_self, true_or, or_true, false_or, or_false, and_false, false_and, not_true_eq_false, not_false_eq_true, if_true, if_false, e_Parting_laterAt_0, e_Parting_laterAt_37, e_Parting_laterAt_51, e_Parting_laterAt_83, e_Parting_laterAt_86, e1, e2, f1.1, f2.1, c, g1, g2]
        repeat' split
        all_goals first | trivial | omega
  · simp (disch := first | assumption | omega) only [rn, wk, al, wr_e, td_e, tm_e, mset_eq, mset_ne, if_pos, if_neg, Int.reduceAdd, Int.reduceSub, Int.reduceMul, Int.reduceNeg, Int.reduceLT, Int.reduceLE, Int.reduceEq, Int.cast_ofNat_Int, eq_self, and_true, true_and, ite_self, true_or, or_true, false_or, or_false, and_false, false_and, not_true_eq_false, not_false_eq_true, if_true, if_false, e_Parting_laterAt_0, e_Parting_laterAt_37, e_Parting_laterAt_51, e_Parting_laterAt_83, e_Parting_laterAt_86, e1, e2, f1.1, f2.1]
/-- the kinds q, q' are alike by L beats at all places of the set e -/
def Gs (A : Mem) (q q' e n L : Int) : Prop := ∀ p, 0 ≤ p ∧ p < A 0 1 ∧ p < n → e / 2 ^ p.toNat % 2 = 1 → AL A q q' p L
theorem lp_lb (d : Nat) (A u : Mem) (hv : VB A) (q q' e : Int) (hq : vQ A q) (hq' : vQ A q') (he : 0 ≤ e ∧ e < 2 ^ (A 0 1).toNat) (hf : ∀ q p, vQ A q → 0 ≤ p ∧ p < A 0 1 → fld A u q p) (Q : Int → Mem → Prop) (hQ : ∀ v, enc v (Gs A q q' e 7) → Q v u) : ∀ (n : Nat) (p v : Int), 0 ≤ p → p + n = 7 → enc v (Gs A q q' e p) → EV (d + 1) o_Parting_laterBy 8 [] [31, q, q', e, v, p] u Q := by
  have h1 := hv.1
  unfold VC at h1
  have p2 := p2_b (n := A 0 1) (by omega)
  intro n
  induction n with
  | zero =>
    intro p v h0 hp hv'
    have ep : p = 7 := by omega
    subst ep
    rw [e_Parting_laterBy_8]
    simp (disch := first | assumption | omega) only [rn, wk, al, wr_e, td_e, tm_e, mset_eq, mset_ne, if_pos, if_neg, Int.reduceAdd, Int.reduceSub, Int.reduceMul, Int.reduceNeg, Int.reduceLT, Int.reduceLE, Int.reduceEq, Int.cast_ofNat_Int, eq_self, and_true, true_and, ite_self, true_or, or_true, false_or, or_false, and_false, false_and, not_true_eq_false, not_false_eq_true, if_true, if_false, e_Parting_laterBy_0, e_Parting_laterBy_47, e_Parting_laterBy_53]
    exact hQ v hv'
  | succ n ih =>
    intro p v h0 hp hv'
    have hi := isin_e (e := e) (c := p) (by omega) (by omega)
    rw [e_Parting_laterBy_8]
    by_cases c : v = 1000
    · subst c
      simp (disch := first | assumption | omega) only [rn, wk, al, wr_e, td_e, tm_e, mset_eq, mset_ne, if_pos, if_neg, Int.reduceAdd, Int.reduceSub, Int.reduceMul, Int.reduceNeg, Int.reduceLT, Int.reduceLE, Int.reduceEq, Int.cast_ofNat_Int, eq_self, and_true, true_and, ite_self, true_or, or_true, false_or, or_false, and_false, false_and, not_true_eq_false, not_false_eq_true, if_true, if_false, e_Parting_laterBy_0, e_Parting_laterBy_47, e_Parting_laterBy_53]
      refine hQ 1000 (Or.inr (Or.inl ⟨rfl, fun L hL h => ?_⟩))
      rcases hv' with x | x | x
      · omega
      · exact x.2 L hL (fun p' a b => h p' ⟨a.1, a.2.1, by omega⟩ b)
      · omega
    · by_cases cb : e / 2 ^ p.toNat % 2 = 1
      · have hpP : p < A 0 1 := by
          by_cases x : p < A 0 1
          · exact x
          · exfalso
            have hle : (2 : Int) ^ (A 0 1).toNat ≤ 2 ^ p.toNat := by
              have y1 : A 0 1 = 0 ∨ A 0 1 = 1 ∨ A 0 1 = 2 ∨ A 0 1 = 3 ∨ A 0 1 = 4 ∨ A 0 1 = 5 ∨ A 0 1 = 6 := by omega
              have y2 : p = 0 ∨ p = 1 ∨ p = 2 ∨ p = 3 ∨ p = 4 ∨ p = 5 ∨ p = 6 := by omega
              rcases y1 with y | y | y | y | y | y | y <;> rcases y2 with z | z | z | z | z | z | z <;> rw [y, z] <;> first | decide | omega
            rw [Int.ediv_eq_zero_of_lt he.1 (by omega)] at cb
            omega
        have ql := q_laterAt d A u hv q q' p hq hq' ⟨h0, hpP⟩ (hf q p hq ⟨h0, hpP⟩) (hf q' p hq' ⟨h0, hpP⟩)
        have he2 : enc (bo v (lc A q q' p)) (Gs A q q' e (p + 1)) := by
          refine enc_congr ?_ (bo_enc hv' (lc_enc hv hq hq' ⟨h0, hpP⟩))
          intro L hL
          constructor
          · rintro ⟨x, y⟩ p' hp' hb
            by_cases ep : p' = p
            · subst ep; exact y
            · exact x p' ⟨hp'.1, hp'.2.1, by omega⟩ hb
          · intro x
            exact ⟨fun p' hp' hb => x p' ⟨hp'.1, hp'.2.1, by omega⟩ hb, x p ⟨h0, hpP, by omega⟩ cb⟩
        simp (disch := first | assumption | omega) only [rn, wk, al, wr_e, td_e, tm_e, mset_eq, mset_ne, if_pos, if_neg, Int.reduceAdd, Int.reduceSub, Int.reduceMul, Int.reduceNeg, Int.reduceLT, Int.reduceLE, Int.reduceEq, Int.cast_ofNat_Int, eq_self, and_true, true_and, ite_self, true_or, or_true, false_or, or_false, and_false, false_and, not_true_eq_false, not_false_eq_true, if_true, if_false, e_Parting_laterBy_0, e_Parting_laterBy_47, e_Parting_laterBy_53, hi, ql, q_both]
        exact ih (p + 1) _ (by omega) (by omega) he2
      · have he2 : enc v (Gs A q q' e (p + 1)) := by
          refine enc_congr ?_ hv'
          intro L hL
          constructor
          · intro x p' hp' hb
            by_cases ep : p' = p
            · subst ep; exact absurd hb cb
            · exact x p' ⟨hp'.1, hp'.2.1, by omega⟩ hb
          · intro x p' hp' hb
            exact x p' ⟨hp'.1, hp'.2.1, by omega⟩ hb
        simp (disch := first | assumption | omega) only [rn, wk, al, wr_e, td_e, tm_e, mset_eq, mset_ne, if_pos, if_neg, Int.reduceAdd, Int.reduceSub, Int.reduceMul, Int.reduceNeg, Int.reduceLT, Int.reduceLE, Int.reduceEq, Int.cast_ofNat_Int, eq_self, and_true, true_and, ite_self, true_or, or_true, false_or, or_false, and_false, false_and, not_true_eq_false, not_false_eq_true, if_true, if_false, e_Parting_laterBy_0, e_Parting_laterBy_47, e_Parting_laterBy_53, hi]
        exact ih (p + 1) _ (by omega) (by omega) he2
theorem q_laterBy (d : Nat) (A u : Mem) (hv : VB A) (q q' e : Int) (hq : vQ A q) (hq' : vQ A q') (he : 0 ≤ e ∧ e < 2 ^ (A 0 1).toNat) (hf : ∀ q p, vQ A q → 0 ≤ p ∧ p < A 0 1 → fld A u q p) : CV (d + 2) 176 [31, q, q', e] u fun v t => t = u ∧ enc v (Gs A q q' e 7) := by
  apply c_Parting_laterBy
  simp (disch := first | assumption | omega) only [rn, wk, al, wr_e, td_e, tm_e, mset_eq, mset_ne, if_pos, if_neg, Int.reduceAdd, Int.reduceSub, Int.reduceMul, Int.reduceNeg, Int.reduceLT, Int.reduceLE, Int.reduceEq, Int.cast_ofNat_Int, eq_self, and_true, true_and, ite_self, true_or, or_true, false_or, or_false, and_false, false_and, not_true_eq_false, not_false_eq_true, if_true, if_false, e_Parting_laterBy_0, e_Parting_laterBy_47, e_Parting_laterBy_53]
  refine lp_lb d A u hv q q' e hq hq' he hf _ (fun v h => ⟨rfl, h⟩) 7 0 1001 (by omega) (by omega) (Or.inl ⟨rfl, fun L hL p hp => by omega⟩)
theorem q_inBeat (d : Nat) (A s : Mem) (h : RB A s) (q p b : Int) (hq : vQ A q) (hp : 0 ≤ p ∧ p < A 0 1) (hb : -100 ≤ b ∧ b ≤ 200) : sem (d + 4) 344 [137, q, p, b] s = some (hB A q p b, s) := by
  apply CV_eq; apply c_R_inBeat
  have h1 := h.1.1
  unfold VC at h1
  have hc := vQ_c hq
  have hq' := hq
  unfold vQ at hq'
  have hl := (h.1.2.2.1 _ hc).2.1
  obtain ⟨e0, e1, e2⟩ := nf_d h hc hp
  by_cases c : dP A (q / 3) p < 10000000
  · have f1 : s 146 (7 * A 6 (q / 3) + p) < 1000000 := by
      rcases e2 with x | ⟨a, b, x⟩ <;> omega
    have hd : 0 ≤ dP A (q / 3) p / 1000 ∧ dP A (q / 3) p / 1000 ≤ 54 := by
      rcases e2 with x | ⟨a, b, x⟩ <;> omega
    have qb := q_behindAt (d + 1) A s h (q / 3) p hc hp c
    unfold hB bP
    by_cases c2 : 0 ≤ b - dP A (q / 3) p / 1000 ∧ b - dP A (q / 3) p / 1000 < 3
    · have ql := q_loudAt d A s h (q / 3) (q % 3) (b - dP A (q / 3) p / 1000) p hc (by omega) c2 hp
      rw [show 3 * (q / 3) + q % 3 = q by omega] at ql
      rw [if_pos c2]
      simp (disch := first | assumption | omega) only [rn, wk, al, wr_e, td_e, tm_e, mset_eq, mset_ne, if_pos, if_neg, Int.reduceAdd, Int.reduceSub, Int.reduceMul, Int.reduceNeg, Int.reduceLT, Int.reduceLE, Int.reduceEq, Int.cast_ofNat_Int, eq_self, and_true, true_and, ite_self, true_or, or_true, false_or, or_false, and_false, false_and, not_true_eq_false, not_false_eq_true, if_true, if_false, e_R_inBeat_0, e_R_inBeat_33, e_R_inBeat_55, e_R_inBeat_59, e_R_inBeat_71, q_callerRow, e0, f1, qb, ql]
    · rw [if_neg c2]
      simp (disch := first | assumption | omega) only [rn, wk, al, wr_e, td_e, tm_e, mset_eq, mset_ne, if_pos, if_neg, Int.reduceAdd, Int.reduceSub, Int.reduceMul, Int.reduceNeg, Int.reduceLT, Int.reduceLE, Int.reduceEq, Int.cast_ofNat_Int, eq_self, and_true, true_and, ite_self, true_or, or_true, false_or, or_false, and_false, false_and, not_true_eq_false, not_false_eq_true, if_true, if_false, e_R_inBeat_0, e_R_inBeat_33, e_R_inBeat_55, e_R_inBeat_59, e_R_inBeat_71, q_callerRow, e0, f1, qb]
      repeat' split
      all_goals first | trivial | omega
  · have f1 : s 146 (7 * A 6 (q / 3) + p) = 1000000 := by
      rcases e2 with x | ⟨a, b, x⟩ <;> omega
    have ez : hB A q p b = 0 := by
      unfold hB aP
      rw [if_neg c]; split <;> rfl
    rw [ez]
    simp (disch := first | assumption | omega) only [rn, wk, al, wr_e, td_e, tm_e, mset_eq, mset_ne, if_pos, if_neg, Int.reduceAdd, Int.reduceSub, Int.reduceMul, Int.reduceNeg, Int.reduceLT, Int.reduceLE, Int.reduceEq, Int.cast_ofNat_Int, eq_self, and_true, true_and, ite_self, true_or, or_true, false_or, or_false, and_false, false_and, not_true_eq_false, not_false_eq_true, if_true, if_false, e_R_inBeat_0, e_R_inBeat_33, e_R_inBeat_55, e_R_inBeat_59, e_R_inBeat_71, q_callerRow, e0, f1]
