/-! ===== H2: alike, parts alike ===== -/
theorem lp_aa2 (d : Nat) (A s : Mem) (h : RB A s) (q q' e L p : Int) (hq : vQ A q) (hq' : vQ A q') (hp : 0 ≤ p ∧ p < A 0 1) (hL : -20 ≤ L ∧ L ≤ 20) (Q : Int → Mem → Prop) (q0 : ¬ AL A q q' p L → Q 0 s) (q1 : AL A q q' p L → ∀ z, EV (d + 4) o_R_areAlikeBy 70 [] [137, q, q', e, L, p, z] s Q) : ∀ (n : Nat) (b : Int), -20 ≤ b → b + n = 91 → (∀ b', -20 ≤ b' → b' < b → hB A q p b' = hB A q' p (b' - L)) → EV (d + 4) o_R_areAlikeBy 31 [] [137, q, q', e, L, p, b] s Q := by
  intro n
  induction n with
  | zero =>
    intro b h0 hb hx
    have hq := q1 (fun b' a c => hx b' a (by omega)) b
    rw [e_R_areAlikeBy_31]
    simp (disch := first | assumption | omega) only [rn, wk, al, wr_e, td_e, tm_e, mset_eq, mset_ne, if_pos, if_neg, Int.reduceAdd, Int.reduceSub, Int.reduceMul, Int.reduceNeg, Int.reduceLT, Int.reduceLE, Int.reduceEq, Int.cast_ofNat_Int, eq_self, and_true, true_and, ite_self, true_or, or_true, false_or, or_false, and_false, false_and, not_true_eq_false, not_false_eq_true, if_true, if_false]
    exact hq
  | succ n ih =>
    intro b h0 hb hx
    have i1 := q_inBeat d A s h q p b hq hp (by omega)
    have i2 := q_inBeat d A s h q' p (b - L) hq' hp (by omega)
    rw [e_R_areAlikeBy_31]
    by_cases c : hB A q p b = hB A q' p (b - L)
    · simp (disch := first | assumption | omega) only [rn, wk, al, wr_e, td_e, tm_e, mset_eq, mset_ne, if_pos, if_neg, Int.reduceAdd, Int.reduceSub, Int.reduceMul, Int.reduceNeg, Int.reduceLT, Int.reduceLE, Int.reduceEq, Int.cast_ofNat_Int, eq_self, and_true, true_and, ite_self, true_or, or_true, false_or, or_false, and_false, false_and, not_true_eq_false, not_false_eq_true, if_true, if_false, e_R_areAlikeBy_0, e_R_areAlikeBy_27, e_R_areAlikeBy_64, e_R_areAlikeBy_76, i1, i2]
      refine ih (b + 1) (by omega) (by omega) (fun b' a e => ?_)
      by_cases eb : b' = b
      · subst eb; exact c
      · exact hx b' a (by omega)
    · simp (disch := first | assumption | omega) only [rn, wk, al, wr_e, td_e, tm_e, mset_eq, mset_ne, if_pos, if_neg, Int.reduceAdd, Int.reduceSub, Int.reduceMul, Int.reduceNeg, Int.reduceLT, Int.reduceLE, Int.reduceEq, Int.cast_ofNat_Int, eq_self, and_true, true_and, ite_self, true_or, or_true, false_or, or_false, and_false, false_and, not_true_eq_false, not_false_eq_true, if_true, if_false, e_R_areAlikeBy_0, e_R_areAlikeBy_27, e_R_areAlikeBy_64, e_R_areAlikeBy_76, i1, i2]
      exact q0 (fun x => c (x b h0 (by omega)))
theorem lp_aa1 (d : Nat) (A s : Mem) (h : RB A s) (q q' e L : Int) (hq : vQ A q) (hq' : vQ A q') (hL : -20 ≤ L ∧ L ≤ 20) (he : 0 ≤ e ∧ e < 128) (Q : Int → Mem → Prop) (q0 : ¬ Gs A q q' e 7 L → Q 0 s) (q1 : Gs A q q' e 7 L → Q 1 s) : ∀ (n : Nat) (p z : Int), 0 ≤ p → p + n = A 0 1 → Gs A q q' e p L → EV (d + 4) o_R_areAlikeBy 3 [] [137, q, q', e, L, p, z] s Q := by
  have h1 := h.1.1
  unfold VC at h1
  have e0 : s 138 0 = A 0 1 := h.2.1.1
  intro n
  induction n with
  | zero =>
    intro p z h0 hp hg
    rw [e_R_areAlikeBy_3]
    simp (disch := first | assumption | omega) only [rn, wk, al, wr_e, td_e, tm_e, mset_eq, mset_ne, if_pos, if_neg, Int.reduceAdd, Int.reduceSub, Int.reduceMul, Int.reduceNeg, Int.reduceLT, Int.reduceLE, Int.reduceEq, Int.cast_ofNat_Int, eq_self, and_true, true_and, ite_self, true_or, or_true, false_or, or_false, and_false, false_and, not_true_eq_false, not_false_eq_true, if_true, if_false, e_R_areAlikeBy_0, e_R_areAlikeBy_27, e_R_areAlikeBy_64, e_R_areAlikeBy_70, e_R_areAlikeBy_76, e0]
    exact q1 (fun p' a b => hg p' ⟨a.1, a.2.1, by omega⟩ b)
  | succ n ih =>
    intro p z h0 hp hg
    have qi := q_isIn (d + 3) e p s (by omega) (by omega)
    rw [e_R_areAlikeBy_3]
    by_cases cb : e / 2 ^ p.toNat % 2 = 1
    · simp (disch := first | assumption | omega) only [rn, wk, al, wr_e, td_e, tm_e, mset_eq, mset_ne, if_pos, if_neg, Int.reduceAdd, Int.reduceSub, Int.reduceMul, Int.reduceNeg, Int.reduceLT, Int.reduceLE, Int.reduceEq, Int.cast_ofNat_Int, eq_self, and_true, true_and, ite_self, true_or, or_true, false_or, or_false, and_false, false_and, not_true_eq_false, not_false_eq_true, if_true, if_false, e_R_areAlikeBy_0, e_R_areAlikeBy_27, e_R_areAlikeBy_64, e_R_areAlikeBy_76, e0, qi]
      refine lp_aa2 d A s h q q' e L p hq hq' ⟨h0, by omega⟩ hL Q ?_ ?_ 111 (-20) (by omega) (by omega) (fun b' a b => by omega)
      · intro hn
        exact q0 (fun x => hn (x p ⟨h0, by omega, by omega⟩ cb))
      · intro hy z'
        simp (disch := first | assumption | omega) only [rn, wk, al, wr_e, td_e, tm_e, mset_eq, mset_ne, if_pos, if_neg, Int.reduceAdd, Int.reduceSub, Int.reduceMul, Int.reduceNeg, Int.reduceLT, Int.reduceLE, Int.reduceEq, Int.cast_ofNat_Int, eq_self, and_true, true_and, ite_self, true_or, or_true, false_or, or_false, and_false, false_and, not_true_eq_false, not_false_eq_true, if_true, if_false, e_R_areAlikeBy_0, e_R_areAlikeBy_27, e_R_areAlikeBy_64, e_R_areAlikeBy_70, e_R_areAlikeBy_76]
        refine ih (p + 1) _ (by omega) (by omega) (fun p' a b => ?_)
        by_cases ep : p' = p
        · subst ep; exact hy
        · exact hg p' ⟨a.1, a.2.1, by omega⟩ b
    · simp (disch := first | assumption | omega) only [rn, wk, al, wr_e, td_e, tm_e, mset_eq, mset_ne, if_pos, if_neg, Int.reduceAdd, Int.reduceSub, Int.reduceMul, Int.reduceNeg, Int.reduceLT, Int.reduceLE, Int.reduceEq, Int.cast_ofNat_Int, eq_self, and_true, true_and, ite_self, true_or, or_true, false_or, or_false, and_false, false_and, not_true_eq_false, not_false_eq_true, if_true, if_false, e_R_areAlikeBy_0, e_R_areAlikeBy_27, e_R_areAlikeBy_64, e_R_areAlikeBy_70, e_R_areAlikeBy_76, e0, qi]
      refine ih (p + 1) _ (by omega) (by omega) (fun p' a b => ?_)
      by_cases ep : p' = p
      · subst ep; exact absurd b cb
      · exact hg p' ⟨a.1, a.2.1, by omega⟩ b
theorem q_areAlikeBy (d : Nat) (A s : Mem) (h : RB A s) (q q' e L : Int) (hq : vQ A q) (hq' : vQ A q') (hL : -20 ≤ L ∧ L ≤ 20) (he : 0 ≤ e ∧ e < 128) : CV (d + 5) 342 [137, q, q', e, L] s fun r t => t = s ∧ ((r = 1 ∧ Gs A q q' e 7 L) ∨ (r = 0 ∧ ¬ Gs A q q' e 7 L)) := by
  have h1 := h.1.1
  unfold VC at h1
  apply c_R_areAlikeBy
  simp (disch := first | assumption | omega) only [rn, wk, al, wr_e, td_e, tm_e, mset_eq, mset_ne, if_pos, if_neg, Int.reduceAdd, Int.reduceSub, Int.reduceMul, Int.reduceNeg, Int.reduceLT, Int.reduceLE, Int.reduceEq, Int.cast_ofNat_Int, eq_self, and_true, true_and, ite_self, true_or, or_true, false_or, or_false, and_false, false_and, not_true_eq_false, not_false_eq_true, if_true, if_false, e_R_areAlikeBy_0, e_R_areAlikeBy_27, e_R_areAlikeBy_64, e_R_areAlikeBy_70, e_R_areAlikeBy_76]
  exact lp_aa1 d A s h q q' e L hq hq' hL he _ (fun x => ⟨rfl, Or.inr ⟨rfl, x⟩⟩) (fun x => ⟨rfl, Or.inl ⟨rfl, x⟩⟩) (A 0 1).toNat 0 0 (by omega) (by omega) (fun p hp => by omega)
/-- what laterOf answers -/
def lo2 (v : Int) : Int := if v = 1001 then 0 else if v = 1000 then 1000000 else v
theorem lp_lo (d : Nat) (A s : Mem) (h : RB A s) (q q' e v : Int) (hq : vQ A q) (hq' : vQ A q') (he : 0 ≤ e ∧ e < 128) (hv : enc v (Gs A q q' e 7)) (Q : Int → Mem → Prop) (hQ : Q (lo2 v) s) : ∀ (n : Nat) (k : Int), 0 ≤ k → k + n = 21 → (∀ L, -k < L ∧ L < k → ¬ Gs A q q' e 7 L) → EV (d + 5) o_R_laterOf 3 [] [137, q, q', e, k] s Q := by
  intro n
  induction n with
  | zero =>
    intro k h0 hk hx
    have : v = 1000 := by
      rcases hv with ⟨x, y⟩ | ⟨x, y⟩ | ⟨x, y⟩
      · exact absurd (y 0 (by omega)) (hx 0 (by omega))
      · exact x
      · exact absurd ((y v x).mpr rfl) (hx v (by omega))
    subst this
    rw [e_R_laterOf_3]
    simp (disch := first | assumption | omega) only [rn, wk, al, wr_e, td_e, tm_e, mset_eq, mset_ne, if_pos, if_neg, Int.reduceAdd, Int.reduceSub, Int.reduceMul, Int.reduceNeg, Int.reduceLT, Int.reduceLE, Int.reduceEq, Int.cast_ofNat_Int, eq_self, and_true, true_and, ite_self, true_or, or_true, false_or, or_false, and_false, false_and, not_true_eq_false, not_false_eq_true, if_true, if_false, e_R_laterOf_0, e_R_laterOf_25, e_R_laterOf_42, e_R_laterOf_48]
    exact hQ
  | succ n ih =>
    intro k h0 hk hx
    rw [e_R_laterOf_3]
    simp (disch := first | assumption | omega) only [rn, wk, al, wr_e, td_e, tm_e, mset_eq, mset_ne, if_pos, if_neg, Int.reduceAdd, Int.reduceSub, Int.reduceMul, Int.reduceNeg, Int.reduceLT, Int.reduceLE, Int.reduceEq, Int.cast_ofNat_Int, eq_self, and_true, true_and, ite_self, true_or, or_true, false_or, or_false, and_false, false_and, not_true_eq_false, not_false_eq_true, if_true, if_false, e_R_laterOf_0, e_R_laterOf_25, e_R_laterOf_42, e_R_laterOf_48]
    refine EV_call (CV_mono (q_areAlikeBy d A s h q q' e k hq hq' (by omega) he) ?_)
    rintro r t ⟨rfl, ⟨rfl, hg⟩ | ⟨rfl, hg⟩⟩
    · simp (disch := first | assumption | omega) only [rn, wk, al, wr_e, td_e, tm_e, mset_eq, mset_ne, if_pos, if_neg, Int.reduceAdd, Int.reduceSub, Int.reduceMul, Int.reduceNeg, Int.reduceLT, Int.reduceLE, Int.reduceEq, Int.cast_ofNat_Int, eq_self, and_true, true_and, ite_self, true_or, or_true, false_or, or_false, and_false, false_and, not_true_eq_false, not_false_eq_true, if_true, if_false]
      have : lo2 v = k := by
        unfold lo2
        rcases hv with ⟨x, y⟩ | ⟨x, y⟩ | ⟨x, y⟩
        · rw [if_pos x]
          by_cases ck : k = 0
          · exact ck.symm
          · exact absurd (y 0 (by omega)) (hx 0 (by omega))
        · exact absurd hg (y k (by omega))
        · rw [if_neg (by omega), if_neg (by omega)]
          exact ((y k (by omega)).mp hg).symm
      rw [this] at hQ
      exact hQ
    · simp (disch := first | assumption | omega) only [rn, wk, al, wr_e, td_e, tm_e, mset_eq, mset_ne, if_pos, if_neg, Int.reduceAdd, Int.reduceSub, Int.reduceMul, Int.reduceNeg, Int.reduceLT, Int.reduceLE, Int.reduceEq, Int.cast_ofNat_Int, eq_self, and_true, true_and, ite_self, true_or, or_true, false_or, or_false, and_false, false_and, not_true_eq_false, not_false_eq_true, if_true, if_false, e_R_laterOf_0, e_R_laterOf_25, e_R_laterOf_42, e_R_laterOf_48]
      refine EV_call (CV_mono (q_areAlikeBy d A t h q q' e (-k) hq hq' (by omega) he) ?_)
      rintro r u ⟨rfl, ⟨rfl, hg2⟩ | ⟨rfl, hg2⟩⟩
      · simp (disch := first | assumption | omega) only [rn, wk, al, wr_e, td_e, tm_e, mset_eq, mset_ne, if_pos, if_neg, Int.reduceAdd, Int.reduceSub, Int.reduceMul, Int.reduceNeg, Int.reduceLT, Int.reduceLE, Int.reduceEq, Int.cast_ofNat_Int, eq_self, and_true, true_and, ite_self, true_or, or_true, false_or, or_false, and_false, false_and, not_true_eq_false, not_false_eq_true, if_true, if_false]
        have : lo2 v = -k := by
          unfold lo2
          rcases hv with ⟨x, y⟩ | ⟨x, y⟩ | ⟨x, y⟩
          · exact absurd (y k (by omega)) hg
          · exact absurd hg2 (y (-k) (by omega))
          · rw [if_neg (by omega), if_neg (by omega)]
            exact ((y (-k) (by omega)).mp hg2).symm
        rw [this] at hQ
        exact hQ
      · try simp (disch := first | assumption | omega) only [rn, wk, al, wr_e, td_e, tm_e, mset_eq, mset_ne, if_pos, if_neg, Int.reduceAdd, Int.reduceSub, Int.reduceMul, Int.reduceNeg, Int.reduceLT, Int.reduceLE, Int.reduceEq, Int.cast_ofNat_Int, eq_self, and_true, true_and, ite_self, true_or, or_true, false_or, or_false, and_false, false_and, not_true_eq_false, not_false_eq_true, if_true, if_false, e_R_laterOf_0, e_R_laterOf_25, e_R_laterOf_42, e_R_laterOf_48]
        refine ih (k + 1) (by omega) (by omega) (fun L hL => ?_)
        by_cases e1 : L = k
        · subst e1; exact hg
        · by_cases e2 : L = -k
          · subst e2; exact hg2
          · exact hx L (by omega)
theorem q_laterOf (d : Nat) (A s : Mem) (h : RB A s) (q q' e v : Int) (hq : vQ A q) (hq' : vQ A q') (he : 0 ≤ e ∧ e < 128) (hv : enc v (Gs A q q' e 7)) : sem (d + 6) 341 [137, q, q', e] s = some (lo2 v, s) := by
  apply CV_eq; apply c_R_laterOf
  simp (disch := first | assumption | omega) only [rn, wk, al, wr_e, td_e, tm_e, mset_eq, mset_ne, if_pos, if_neg, Int.reduceAdd, Int.reduceSub, Int.reduceMul, Int.reduceNeg, Int.reduceLT, Int.reduceLE, Int.reduceEq, Int.cast_ofNat_Int, eq_self, and_true, true_and, ite_self, true_or, or_true, false_or, or_false, and_false, false_and, not_true_eq_false, not_false_eq_true, if_true, if_false, e_R_laterOf_0, e_R_laterOf_25, e_R_laterOf_42, e_R_laterOf_48]
  exact lp_lo d A s h q q' e v hq hq' he hv _ ⟨rfl, rfl⟩ 21 0 (by omega) (by omega) (fun L hL => by omega)
theorem or_tab : ∀ P : Fin 8, ∀ a : Fin 128, ∀ h : Fin 7, a.val < 2 ^ P.val → h.val < P.val → 0 ≤ ior_ (a.val : Int) (ishl_ 1 (h.val : Int)) ∧ ior_ (a.val : Int) (ishl_ 1 (h.val : Int)) < 2 ^ P.val := by decide +kernel
theorem or_b {P a h : Int} (hP : 0 ≤ P ∧ P ≤ 7) (ha : 0 ≤ a ∧ a < 2 ^ P.toNat) (hh : 0 ≤ h ∧ h < P) : 0 ≤ ior_ a (ishl_ 1 h) ∧ ior_ a (ishl_ 1 h) < 2 ^ P.toNat := by
  obtain ⟨p, rfl⟩ : ∃ p : Nat, P = p := ⟨P.toNat, by omega⟩
  obtain ⟨x, rfl⟩ : ∃ x : Nat, a = x := ⟨a.toNat, by omega⟩
  obtain ⟨y, rfl⟩ : ∃ y : Nat, h = y := ⟨h.toNat, by omega⟩
  rw [show ((p : Int)).toNat = p by omega] at *
  have e : ((2 ^ p : Nat) : Int) = (2 : Int) ^ p := by push_cast; rfl
  have hx : x < 2 ^ p := by omega
  have hx2 : x < 128 := by
    have : 2 ^ p ≤ 2 ^ 7 := Nat.pow_le_pow_right (by omega) (by omega)
    omega
  exact or_tab ⟨p, by omega⟩ ⟨x, hx2⟩ ⟨y, by omega⟩ hx (by show y < p; omega)
def sp_ (F : Int → Int) : Nat → Int → Int → Int
  | 0, _, a => a
  | n + 1, k, a => sp_ F n (k + 1) (ior_ a (ishl_ 1 (F k)))
theorem sp_b {F : Int → Int} {P : Int} (hP : 0 ≤ P ∧ P ≤ 7) : ∀ (n : Nat) (k a : Int), (∀ i, k ≤ i → i < k + n → 0 ≤ F i ∧ F i < P) → (0 ≤ a ∧ a < 2 ^ P.toNat) → 0 ≤ sp_ F n k a ∧ sp_ F n k a < 2 ^ P.toNat := by
  intro n
  induction n with
  | zero => intro k a _ h; exact h
  | succ n ih =>
    intro k a hF h
    exact ih (k + 1) _ (fun i a b => hF i (by omega) (by omega)) (or_b hP h (hF k (by omega) (by omega)))
theorem sp_congr {F G : Int → Int} : ∀ (n : Nat) (k a : Int), (∀ i, k ≤ i → i < k + n → F i = G i) → sp_ F n k a = sp_ G n k a := by
  intro n
  induction n with
  | zero => intros; rfl
  | succ n ih =>
    intro k a h
    unfold sp_
    rw [h k (by omega) (by omega), ih (k + 1) _ (fun i a b => h i (by omega) (by omega))]
theorem q_slatePlaces (d : Nat) (s : Mem) (h3 : 0 ≤ s 37 3 ∧ s 37 3 ≤ 4) : sem (d + 1) 175 [37] s = some (sp_ (s 42) (s 37 3).toNat 0 0, s) := by
  have lp : ∀ (n : Nat) (k a : Int), 0 ≤ k → k + n = s 37 3 → ∀ Q : Int → Mem → Prop, Q (sp_ (s 42) n k a) s → EV d o_Hall_slatePlaces 4 [] [37, a, k] s Q := by
    intro n
    induction n with
    | zero =>
      intro k a h0 hk Q hq
      rw [e_Hall_slatePlaces_4]
      simp (disch := first | assumption | omega) only [rn, wk, al, wr_e, td_e, tm_e, mset_eq, mset_ne, if_pos, if_neg, Int.reduceAdd, Int.reduceSub, Int.reduceMul, Int.reduceNeg, Int.reduceLT, Int.reduceLE, Int.reduceEq, Int.cast_ofNat_Int, eq_self, and_true, true_and, ite_self, true_or, or_true, false_or, or_false, and_false, false_and, not_true_eq_false, not_false_eq_true, if_true, if_false, e_Hall_slatePlaces_0, e_Hall_slatePlaces_29]
      exact hq
    | succ n ih =>
      intro k a h0 hk Q hq
      rw [e_Hall_slatePlaces_4]
      simp (disch := first | assumption | omega) only [rn, wk, al, wr_e, td_e, tm_e, mset_eq, mset_ne, if_pos, if_neg, Int.reduceAdd, Int.reduceSub, Int.reduceMul, Int.reduceNeg, Int.reduceLT, Int.reduceLE, Int.reduceEq, Int.cast_ofNat_Int, eq_self, and_true, true_and, ite_self, true_or, or_true, false_or, or_false, and_false, false_and, not_true_eq_false, not_false_eq_true, if_true, if_false, e_Hall_slatePlaces_0, e_Hall_slatePlaces_29]
      exact ih (k + 1) _ (by omega) (by omega) Q hq
  apply CV_eq; apply c_Hall_slatePlaces
  simp (disch := first | assumption | omega) only [rn, wk, al, wr_e, td_e, tm_e, mset_eq, mset_ne, if_pos, if_neg, Int.reduceAdd, Int.reduceSub, Int.reduceMul, Int.reduceNeg, Int.reduceLT, Int.reduceLE, Int.reduceEq, Int.cast_ofNat_Int, eq_self, and_true, true_and, ite_self, true_or, or_true, false_or, or_false, and_false, false_and, not_true_eq_false, not_false_eq_true, if_true, if_false, e_Hall_slatePlaces_0, e_Hall_slatePlaces_29]
  exact lp _ 0 0 (by omega) (by omega) _ ⟨rfl, rfl⟩
theorem q_RslatePlaces (d : Nat) (s : Mem) (h3 : 0 ≤ s 138 2 ∧ s 138 2 ≤ 4) : sem (d + 1) 340 [137] s = some (sp_ (fun i => s 138 (50 + i)) (s 138 2).toNat 0 0, s) := by
  have lp : ∀ (n : Nat) (k a : Int), 0 ≤ k → k + n = s 138 2 → ∀ Q : Int → Mem → Prop, Q (sp_ (fun i => s 138 (50 + i)) n k a) s → EV d o_R_slatePlaces 4 [] [137, a, k] s Q := by
    intro n
    induction n with
    | zero =>
      intro k a h0 hk Q hq
      rw [e_R_slatePlaces_4]
      simp (disch := first | assumption | omega) only [rn, wk, al, wr_e, td_e, tm_e, mset_eq, mset_ne, if_pos, if_neg, Int.reduceAdd, Int.reduceSub, Int.reduceMul, Int.reduceNeg, Int.reduceLT, Int.reduceLE, Int.reduceEq, Int.cast_ofNat_Int, eq_self, and_true, true_and, ite_self, true_or, or_true, false_or, or_false, and_false, false_and, not_true_eq_false, not_false_eq_true, if_true, if_false, e_R_slatePlaces_0, e_R_slatePlaces_34]
      exact hq
    | succ n ih =>
      intro k a h0 hk Q hq
      rw [e_R_slatePlaces_4]
      simp (disch := first | assumption | omega) only [rn, wk, al, wr_e, td_e, tm_e, mset_eq, mset_ne, if_pos, if_neg, Int.reduceAdd, Int.reduceSub, Int.reduceMul, Int.reduceNeg, Int.reduceLT, Int.reduceLE, Int.reduceEq, Int.cast_ofNat_Int, eq_self, and_true, true_and, ite_self, true_or, or_true, false_or, or_false, and_false, false_and, not_true_eq_false, not_false_eq_true, if_true, if_false, e_R_slatePlaces_0, e_R_slatePlaces_34]
      exact ih (k + 1) _ (by omega) (by omega) Q hq
  apply CV_eq; apply c_R_slatePlaces
  simp (disch := first | assumption | omega) only [rn, wk, al, wr_e, td_e, tm_e, mset_eq, mset_ne, if_pos, if_neg, Int.reduceAdd, Int.reduceSub, Int.reduceMul, Int.reduceNeg, Int.reduceLT, Int.reduceLE, Int.reduceEq, Int.cast_ofNat_Int, eq_self, and_true, true_and, ite_self, true_or, or_true, false_or, or_false, and_false, false_and, not_true_eq_false, not_false_eq_true, if_true, if_false, e_R_slatePlaces_0, e_R_slatePlaces_34]
  exact lp _ 0 0 (by omega) (by omega) _ ⟨rfl, rfl⟩
theorem inv_part {s v t u : Mem} (p : Int) (hi : Inv s) (hv : ∀ c i, ¬ (32 ≤ c ∧ c ≤ 36) → v c i = s c i) (ht : t = mset v 0 0 p) (hu : Fx t 146 u) : Inv (mset u 137 2 p) := by
  subst ht
  refine inv_scr p hi ?_ ?_
  · intro c i h
    unfold Rv at h
    rw [hu c i (by omega), mset_ne (by omega), hv c i (by omega)]
  · rw [hu _ _ (by omega), mset_eq rfl rfl]
theorem rb_far {s t : Mem} (hi : Inv s) (d : Nat) (ht : t 138 = s 138) : CV (d + 2) 282 [137] t fun _ u => Fx t 146 u ∧ RB (win s 37) u := by
  have hH := hi.2.2.2.2.1
  refine CV_mono (far_nf hi d ht) ?_
  rintro r u ⟨u1, u2⟩
  have e138 : u 138 = s 138 := by rw [← ht]; funext i; exact u1 _ _ (by omega)
  exact ⟨u1, VB_of (inv_va hi), by rw [e138]; exact hH.2.1, by rw [e138]; exact hH.2.2.2.1, by rw [e138]; exact hH.2.2.2.2.1, u2⟩
theorem ak_alike (d : Nat) (c y c' y' : Int) : Ak (d + 30) 171 339 [c, y, c', y'] := by
  apply ak_of; intro s hi
  have hc := inv_c hi
  have hr := inv_rc hi
  have hrl := inv_rl hi
  have hvl := inv_vl hi
  have hv := VB_of (inv_va hi)
  by_cases c1 : ((0 ≤ c ∧ c < s 37 4) ∧ (0 ≤ y ∧ y < s 44 c)) ∧ ((0 ≤ c' ∧ c' < s 37 4) ∧ (0 ≤ y' ∧ y' < s 44 c')) ∧ ¬ (c = c' ∧ y = y')
  · obtain ⟨k1, k2, k3⟩ := c1
    have l1 := (hvl c k1.1).2.1
    have l2 := (hvl c' k2.1).2.1
    have r1 := (hrl c k1.1).2.1
    have r2 := (hrl c' k2.1).2.1
    have q1 : vQ (win s 37) (3 * c + y) := by
      have e1 : (3 * c + y) / 3 = c := by omega
      have e2 : (3 * c + y) % 3 = y := by omega
      refine ⟨by omega, by omega, ?_, ?_⟩
      · rw [e1]; exact k1.1.2
      · rw [e1, e2]; exact k1.2.2
    have q2 : vQ (win s 37) (3 * c' + y') := by
      have e1 : (3 * c' + y') / 3 = c' := by omega
      have e2 : (3 * c' + y') % 3 = y' := by omega
      refine ⟨by omega, by omega, ?_, ?_⟩
      · rw [e1]; exact k2.1.2
      · rw [e1, e2]; exact k2.2.2
    have hM : ∀ Q : Int → Mem → Prop, EV (d + 29) o_M_alike 54 [] [0, c, y, c', y', 0, 0] s Q → EV (d + 29) o_M_alike 0 [] [0, c, y, c', y', 0, 0] s Q := by
      intro Q hq
      by_cases ca : c = c'
      · have : ¬ y = y' := fun h => k3 ⟨ca, h⟩
        simp (disch := first | assumption | omega) only [rn, wk, al, wr_e, td_e, tm_e, mset_eq, mset_ne, if_pos, if_neg, Int.reduceAdd, Int.reduceSub, Int.reduceMul, Int.reduceNeg, Int.reduceLT, Int.reduceLE, Int.reduceEq, Int.cast_ofNat_Int, eq_self, and_true, true_and, ite_self, true_or, or_true, false_or, or_false, and_false, false_and, not_true_eq_false, not_false_eq_true, if_true, if_false, e_M_alike_0, e_M_alike_15, e_M_alike_16, e_M_alike_48, e_M_alike_107, e_M_alike_120, e_M_alike_122, q_hasCry _ isH37]
        exact hq
      · simp (disch := first | assumption | omega) only [rn, wk, al, wr_e, td_e, tm_e, mset_eq, mset_ne, if_pos, if_neg, Int.reduceAdd, Int.reduceSub, Int.reduceMul, Int.reduceNeg, Int.reduceLT, Int.reduceLE, Int.reduceEq, Int.cast_ofNat_Int, eq_self, and_true, true_and, ite_self, true_or, or_true, false_or, or_false, and_false, false_and, not_true_eq_false, not_false_eq_true, if_true, if_false, e_M_alike_0, e_M_alike_15, e_M_alike_16, e_M_alike_48, e_M_alike_107, e_M_alike_120, e_M_alike_122, q_hasCry _ isH37]
        exact hq
    have hR : ∀ (t : Mem) (Q : Int → Mem → Prop), t 138 = s 138 → EV (d + 29) o_R_alike 36 [] [137, c, y, c', y', 0] t Q → EV (d + 29) o_R_alike 0 [] [137, c, y, c', y', 0] t Q := by
      intro t Q ht hq
      have g3 : t 138 3 = s 37 4 := by rw [ht]; omega
      have g5 : ∀ i, t 138 i = s 138 i := fun i => by rw [ht]
      have qa : sem (d + 29) 276 [137, c, y] t = some (1, t) := by
        rw [q_isCry (d + 27) c y t (by omega), g3, g5, r1, if_pos k1]
      have qb : sem (d + 29) 276 [137, c', y'] t = some (1, t) := by
        rw [q_isCry (d + 27) c' y' t (by omega), g3, g5, r2, if_pos k2]
      by_cases ca : c = c'
      · have : ¬ y = y' := fun h => k3 ⟨ca, h⟩
        simp (disch := first | assumption | omega) only [rn, wk, al, wr_e, td_e, tm_e, mset_eq, mset_ne, if_pos, if_neg, Int.reduceAdd, Int.reduceSub, Int.reduceMul, Int.reduceNeg, Int.reduceLT, Int.reduceLE, Int.reduceEq, Int.cast_ofNat_Int, eq_self, and_true, true_and, ite_self, true_or, or_true, false_or, or_false, and_false, false_and, not_true_eq_false, not_false_eq_true, if_true, if_false, e_R_alike_0, e_R_alike_30, e_R_alike_78, e_R_alike_84, qa, qb]
        exact hq
      · simp (disch := first | assumption | omega) only [rn, wk, al, wr_e, td_e, tm_e, mset_eq, mset_ne, if_pos, if_neg, Int.reduceAdd, Int.reduceSub, Int.reduceMul, Int.reduceNeg, Int.reduceLT, Int.reduceLE, Int.reduceEq, Int.cast_ofNat_Int, eq_self, and_true, true_and, ite_self, true_or, or_true, false_or, or_false, and_false, false_and, not_true_eq_false, not_false_eq_true, if_true, if_false, e_R_alike_0, e_R_alike_30, e_R_alike_78, e_R_alike_84, qa, qb]
        exact hq
    have hsp := sp_b (F := s 42) (P := s 37 1) (by omega) (s 37 3).toNat 0 0 (fun i a b => inv_vs hi i (by omega)) ⟨by omega, (p2_b (by omega)).1⟩
    have p2 := p2_b (n := s 37 1) (by omega)
    have p27 : (2 : Int) ^ (s 37 1).toNat ≤ 128 := by
      have y1 : s 37 1 = 0 ∨ s 37 1 = 1 ∨ s 37 1 = 2 ∨ s 37 1 = 3 ∨ s 37 1 = 4 ∨ s 37 1 = 5 ∨ s 37 1 = 6 ∨ s 37 1 = 7 := by omega
      rcases y1 with y | y | y | y | y | y | y | y <;> rw [y] <;> decide
    have e31 : c * 3 + y = 3 * c + y := by omega
    have e32 : c' * 3 + y' = 3 * c' + y' := by omega
    apply c_M_alike
    apply hM
    rw [e_M_alike_54]
    simp (disch := first | assumption | omega) only [rn, wk, al, wr_e, td_e, tm_e, mset_eq, mset_ne, if_pos, if_neg, Int.reduceAdd, Int.reduceSub, Int.reduceMul, Int.reduceNeg, Int.reduceLT, Int.reduceLE, Int.reduceEq, Int.cast_ofNat_Int, eq_self, and_true, true_and, ite_self, true_or, or_true, false_or, or_false, and_false, false_and, not_true_eq_false, not_false_eq_true, if_true, if_false]
    refine EV_call (CV_mono (q_listen _ (win s 37) s rfl hv) ?_)
    rintro r v ⟨v1, v2⟩
    have g3 : v 37 3 = s 37 3 := v1 _ _ (by omega) (by omega)
    have g42 : v 42 = s 42 := funext fun i => v1 _ _ (by omega) (by omega)
    have qsp := q_slatePlaces (d + 28) v (by omega)
    rw [g3, g42] at qsp
    simp (disch := first | assumption | omega) only [rn, wk, al, wr_e, td_e, tm_e, mset_eq, mset_ne, if_pos, if_neg, Int.reduceAdd, Int.reduceSub, Int.reduceMul, Int.reduceNeg, Int.reduceLT, Int.reduceLE, Int.reduceEq, Int.cast_ofNat_Int, eq_self, and_true, true_and, ite_self, true_or, or_true, false_or, or_false, and_false, false_and, not_true_eq_false, not_false_eq_true, if_true, if_false, qsp, e31, e32]
    refine EV_call (CV_mono (q_laterBy _ (win s 37) v hv (3 * c + y) (3 * c' + y') _ q1 q2 hsp v2) ?_)
    rintro w t ⟨rfl, hw⟩
    have fin : ∀ p, (lo2 w = 1000000 → p = 6) → (lo2 w ≠ 1000000 → p = 0) → CV (d + 30) 339 [137, c, y, c', y'] (mset t 0 0 p) fun r' u => (r' = if lo2 w = 1000000 then -1 else lo2 w) ∧ Inv u := by
      intro p hp6 hp0
      have e138 : mset t 0 0 p 138 = s 138 := by rw [mset_nc (by omega)]; funext i; exact v1 _ _ (by omega) (by omega)
      apply c_R_alike
      apply hR _ _ e138
      rw [e_R_alike_36]
      simp (disch := first | assumption | omega) only [rn, wk, al, wr_e, td_e, tm_e, mset_eq, mset_ne, if_pos, if_neg, Int.reduceAdd, Int.reduceSub, Int.reduceMul, Int.reduceNeg, Int.reduceLT, Int.reduceLE, Int.reduceEq, Int.cast_ofNat_Int, eq_self, and_true, true_and, ite_self, true_or, or_true, false_or, or_false, and_false, false_and, not_true_eq_false, not_false_eq_true, if_true, if_false]
      refine EV_call (CV_mono (rb_far hi _ e138) ?_)
      rintro r' u ⟨u1, u2⟩
      have e138u : u 138 = s 138 := by rw [← e138]; funext i; exact u1 _ _ (by omega)
      have g2 : u 138 2 = s 37 3 := by rw [e138u]; omega
      have qs2 := q_RslatePlaces (d + 28) u (by omega)
      have es : sp_ (fun i => u 138 (50 + i)) (u 138 2).toNat 0 0 = sp_ (s 42) (s 37 3).toNat 0 0 := by
        rw [g2]
        exact sp_congr _ _ _ (fun i a b => by show u 138 (50 + i) = s 42 i; rw [e138u]; exact inv_rs hi i (by omega))
      rw [es] at qs2
      have ql := q_laterOf (d + 23) (win s 37) u u2 (3 * c + y) (3 * c' + y') (sp_ (s 42) (s 37 3).toNat 0 0) w q1 q2 (by omega) hw
      simp (disch := first | assumption | omega) only [rn, wk, al, wr_e, td_e, tm_e, mset_eq, mset_ne, if_pos, if_neg, Int.reduceAdd, Int.reduceSub, Int.reduceMul, Int.reduceNeg, Int.reduceLT, Int.reduceLE, Int.reduceEq, Int.cast_ofNat_Int, eq_self, and_true, true_and, ite_self, true_or, or_true, false_or, or_false, and_false, false_and, not_true_eq_false, not_false_eq_true, if_true, if_false, qs2, ql]
      by_cases cl : lo2 w = 1000000
      · have := hp6 cl
        subst this
        simp (disch := first | assumption | omega) only [rn, wk, al, wr_e, td_e, tm_e, mset_eq, mset_ne, if_pos, if_neg, Int.reduceAdd, Int.reduceSub, Int.reduceMul, Int.reduceNeg, Int.reduceLT, Int.reduceLE, Int.reduceEq, Int.cast_ofNat_Int, eq_self, and_true, true_and, ite_self, true_or, or_true, false_or, or_false, and_false, false_and, not_true_eq_false, not_false_eq_true, if_true, if_false, e_R_alike_0, e_R_alike_30, e_R_alike_36, e_R_alike_78, e_R_alike_84, q_refuse]
        exact inv_part 6 hi (fun c i h => v1 c i (by omega) (by omega)) rfl u1
      · have := hp0 cl
        subst this
        simp (disch := first | assumption | omega) only [rn, wk, al, wr_e, td_e, tm_e, mset_eq, mset_ne, if_pos, if_neg, Int.reduceAdd, Int.reduceSub, Int.reduceMul, Int.reduceNeg, Int.reduceLT, Int.reduceLE, Int.reduceEq, Int.cast_ofNat_Int, eq_self, and_true, true_and, ite_self, true_or, or_true, false_or, or_false, and_false, false_and, not_true_eq_false, not_false_eq_true, if_true, if_false, e_R_alike_0, e_R_alike_30, e_R_alike_36, e_R_alike_78, e_R_alike_84, q_gives]
        exact inv_part 0 hi (fun c i h => v1 c i (by omega) (by omega)) rfl u1
    by_cases cw : w = 1000
    · subst cw
      simp (disch := first | assumption | omega) only [rn, wk, al, wr_e, td_e, tm_e, mset_eq, mset_ne, if_pos, if_neg, Int.reduceAdd, Int.reduceSub, Int.reduceMul, Int.reduceNeg, Int.reduceLT, Int.reduceLE, Int.reduceEq, Int.cast_ofNat_Int, eq_self, and_true, true_and, ite_self, true_or, or_true, false_or, or_false, and_false, false_and, not_true_eq_false, not_false_eq_true, if_true, if_false, e_M_alike_0, e_M_alike_15, e_M_alike_16, e_M_alike_48, e_M_alike_54, e_M_alike_107, e_M_alike_120, e_M_alike_122, q_fail]
      have := fin 6 (fun _ => rfl) (fun h => absurd rfl h)
      exact this
    · by_cases cw2 : w = 1001
      · subst cw2
        simp (disch := first | assumption | omega) only [rn, wk, al, wr_e, td_e, tm_e, mset_eq, mset_ne, if_pos, if_neg, Int.reduceAdd, Int.reduceSub, Int.reduceMul, Int.reduceNeg, Int.reduceLT, Int.reduceLE, Int.reduceEq, Int.cast_ofNat_Int, eq_self, and_true, true_and, ite_self, true_or, or_true, false_or, or_false, and_false, false_and, not_true_eq_false, not_false_eq_true, if_true, if_false, e_M_alike_0, e_M_alike_15, e_M_alike_16, e_M_alike_48, e_M_alike_54, e_M_alike_107, e_M_alike_120, e_M_alike_122, q_pass]
        have := fin 0 (fun h => absurd h (by decide)) (fun _ => rfl)
        exact this
      · have ew : lo2 w = w := by unfold lo2; rw [if_neg cw2, if_neg cw]
        have hw20 : -20 ≤ w ∧ w ≤ 20 := by
          rcases hw with x | x | x
          · omega
          · omega
          · exact x.1
        simp (disch := first | assumption | omega) only [rn, wk, al, wr_e, td_e, tm_e, mset_eq, mset_ne, if_pos, if_neg, Int.reduceAdd, Int.reduceSub, Int.reduceMul, Int.reduceNeg, Int.reduceLT, Int.reduceLE, Int.reduceEq, Int.cast_ofNat_Int, eq_self, and_true, true_and, ite_self, true_or, or_true, false_or, or_false, and_false, false_and, not_true_eq_false, not_false_eq_true, if_true, if_false, e_M_alike_0, e_M_alike_15, e_M_alike_16, e_M_alike_48, e_M_alike_54, e_M_alike_107, e_M_alike_120, e_M_alike_122, q_pass]
        have := fin 0 (fun h => by rw [ew] at h; omega) (fun _ => rfl)
        rw [ew, if_neg (by omega)] at this
        exact this
  · have hm : CV (d + 30) 339 [137, c, y, c', y'] (mset s 0 0 1) fun r' u => r' = -1 ∧ Inv u := by
      have qa : ∀ a b, sem (d + 29) 276 [137, a, b] (mset s 0 0 1) = some (if (0 ≤ a ∧ a < s 37 4) ∧ (0 ≤ b ∧ b < s 44 a) then 1 else 0, mset s 0 0 1) := by
        intro a b
        rw [q_isCry (d + 27) a b _ (by rw [mset_ne (by omega)]; omega)]
        simp (disch := omega) only [mset_ne]
        rw [hr.2.2.2.1]
        by_cases x : 0 ≤ a ∧ a < s 37 4
        · rw [(hrl a x).2.1]
        · rw [if_neg (fun h => x h.1), if_neg (fun h => x h.1)]
      apply c_R_alike
      simp (disch := first | assumption | omega) only [rn, wk, al, wr_e, td_e, tm_e, mset_eq, mset_ne, if_pos, if_neg, Int.reduceAdd, Int.reduceSub, Int.reduceMul, Int.reduceNeg, Int.reduceLT, Int.reduceLE, Int.reduceEq, Int.cast_ofNat_Int, eq_self, and_true, true_and, ite_self, true_or, or_true, false_or, or_false, and_false, false_and, not_true_eq_false, not_false_eq_true, if_true, if_false, e_R_alike_0, e_R_alike_30, e_R_alike_36, e_R_alike_78, e_R_alike_84, qa, q_refuse]
      repeat' split
      all_goals first | exact inv_st 1 hi | omega
    apply c_M_alike
    simp (disch := first | assumption | omega) only [rn, wk, al, wr_e, td_e, tm_e, mset_eq, mset_ne, if_pos, if_neg, Int.reduceAdd, Int.reduceSub, Int.reduceMul, Int.reduceNeg, Int.reduceLT, Int.reduceLE, Int.reduceEq, Int.cast_ofNat_Int, eq_self, and_true, true_and, ite_self, true_or, or_true, false_or, or_false, and_false, false_and, not_true_eq_false, not_false_eq_true, if_true, if_false, e_M_alike_0, e_M_alike_15, e_M_alike_16, e_M_alike_48, e_M_alike_54, e_M_alike_107, e_M_alike_120, e_M_alike_122, q_hasCry _ isH37, q_fail]
    repeat' split
    all_goals first | exact hm | omega
