/-! ===== H2: parts ===== -/
def pa (A : Mem) (e q q' : Int) : Prop := ∃ L, (-20 ≤ L ∧ L ≤ 20) ∧ Gs A q q' e 7 L
def DP (A : Mem) (e : Int) : Prop := ∀ q q', q < q' → vQ A q → vQ A q' → ¬ pa A e q q'
theorem enc_pa {A : Mem} {e q q' v : Int} (h : enc v (Gs A q q' e 7)) : (v = 1000 ↔ ¬ pa A e q q') ∧ (lo2 v = 1000000 ↔ ¬ pa A e q q') := by
  have h1 : v = 1000 ↔ ¬ pa A e q q' := by
    constructor
    · intro hv
      rintro ⟨L, hL, hg⟩
      rcases h with x | x | x
      · omega
      · exact x.2 L hL hg
      · omega
    · intro hn
      rcases h with x | x | x
      · exact absurd ⟨0, by omega, x.2 0 (by omega)⟩ hn
      · exact x.1
      · exact absurd ⟨v, x.1, (x.2 v x.1).mpr rfl⟩ hn
  refine ⟨h1, ?_⟩
  rw [← h1]
  unfold lo2
  rcases h with x | x | x
  · rw [if_pos x.1]; omega
  · rw [if_neg (by omega), if_pos x.1]; omega
  · rw [if_neg (by omega), if_neg (by omega)]; omega
theorem enc_ex {A : Mem} (hv : VB A) (e q q' : Int) (hq : vQ A q) (hq' : vQ A q') : ∀ n : Nat, ∃ v, enc v (Gs A q q' e n) := by
  intro n
  induction n with
  | zero => exact ⟨1001, Or.inl ⟨rfl, fun L hL p hp => by omega⟩⟩
  | succ n ih =>
    obtain ⟨v, h⟩ := ih
    by_cases c : (n : Int) < A 0 1 ∧ e / 2 ^ (n : Int).toNat % 2 = 1
    · refine ⟨_, enc_congr ?_ (bo_enc h (lc_enc hv hq hq' (p := n) ⟨by omega, c.1⟩))⟩
      intro L hL
      constructor
      · rintro ⟨x, y⟩ p' hp' hb
        by_cases ep : p' = n
        · subst ep; exact y
        · exact x p' ⟨hp'.1, hp'.2.1, by omega⟩ hb
      · intro x
        exact ⟨fun p' hp' hb => x p' ⟨hp'.1, hp'.2.1, by omega⟩ hb, x n ⟨by omega, c.1, by omega⟩ c.2⟩
    · refine ⟨v, enc_congr ?_ h⟩
      intro L hL
      constructor
      · intro x p' hp' hb
        by_cases ep : p' = n
        · subst ep; exact absurd ⟨hp'.2.1, hb⟩ c
        · exact x p' ⟨hp'.1, hp'.2.1, by omega⟩ hb
      · intro x p' hp' hb
        exact x p' ⟨hp'.1, hp'.2.1, by omega⟩ hb
/-- cells 37, 44 are those of the hall A -/
def isA (A u : Mem) : Prop := u 37 4 = A 0 4 ∧ u 44 = A 7 ∧ u 37 1 = A 0 1
theorem q_isThere1 (d : Nat) (A u : Mem) (hv : VB A) (ha : isA A u) (q : Int) (h0 : 0 ≤ q) (hq : vQ A q) : sem (d + 2) 181 [37, q] u = some (1, u) := by
  have h1 := hv.1
  unfold VC at h1
  apply CV_eq; apply c_Parting_isThere
  unfold vQ at hq
  have qc : sem (d + 1) 65 [37, q / 3, q % 3] u = some (1, u) := by
    rw [q_hasCry d isH37 (q / 3) (q % 3) u (by rw [ha.1]; omega)]
    simp only [Int.reduceAdd]
    have g := congrFun ha.2.1 (q / 3)
    have g4 := ha.1
    rw [if_pos (by omega)]
  simp (disch := first | assumption | omega) only [rn, wk, al, wr_e, td_e, tm_e, mset_eq, mset_ne, if_pos, if_neg, Int.reduceAdd, Int.reduceSub, Int.reduceMul, Int.reduceNeg, Int.reduceLT, Int.reduceLE, Int.reduceEq, Int.cast_ofNat_Int, eq_self, and_true, true_and, ite_self, true_or, or_true, false_or, or_false, and_false, false_and, not_true_eq_false, not_false_eq_true, if_true, if_false, e_Parting_isThere_0, qc]
theorem q_isThere0 (d : Nat) (A u : Mem) (hv : VB A) (ha : isA A u) (q : Int) (h0 : 0 ≤ q ∧ q < 15) (hq : ¬ vQ A q) : sem (d + 2) 181 [37, q] u = some (0, u) := by
  have h1 := hv.1
  unfold VC at h1
  apply CV_eq; apply c_Parting_isThere
  unfold vQ at hq
  have qc : sem (d + 1) 65 [37, q / 3, q % 3] u = some (0, u) := by
    rw [q_hasCry d isH37 (q / 3) (q % 3) u (by rw [ha.1]; omega)]
    simp only [Int.reduceAdd]
    have g := congrFun ha.2.1 (q / 3)
    have g4 := ha.1
    rw [if_neg (by omega)]
  simp (disch := first | assumption | omega) only [rn, wk, al, wr_e, td_e, tm_e, mset_eq, mset_ne, if_pos, if_neg, Int.reduceAdd, Int.reduceSub, Int.reduceMul, Int.reduceNeg, Int.reduceLT, Int.reduceLE, Int.reduceEq, Int.cast_ofNat_Int, eq_self, and_true, true_and, ite_self, true_or, or_true, false_or, or_false, and_false, false_and, not_true_eq_false, not_false_eq_true, if_true, if_false, e_Parting_isThere_0, qc]
theorem q_isCryOf1 (d : Nat) (A u : Mem) (h : RB A u) (q : Int) (h0 : 0 ≤ q) (hq : vQ A q) : sem (d + 3) 347 [137, q] u = some (1, u) := by
  have h1 := h.1.1
  unfold VC at h1
  have hc := vQ_c hq
  unfold vQ at hq
  have e3 : u 138 3 = A 0 4 := h.2.1.2.2.2.1
  have e4 := (h.2.2.2.1 _ hc).2.1
  apply CV_eq; apply c_R_isCryOf
  have qc : sem (d + 2) 276 [137, q / 3, q % 3] u = some (1, u) := by
    rw [q_isCry d (q / 3) (q % 3) u (by omega), e3, e4, if_pos (by omega)]
  simp (disch := first | assumption | omega) only [rn, wk, al, wr_e, td_e, tm_e, mset_eq, mset_ne, if_pos, if_neg, Int.reduceAdd, Int.reduceSub, Int.reduceMul, Int.reduceNeg, Int.reduceLT, Int.reduceLE, Int.reduceEq, Int.cast_ofNat_Int, eq_self, and_true, true_and, ite_self, true_or, or_true, false_or, or_false, and_false, false_and, not_true_eq_false, not_false_eq_true, if_true, if_false, e_R_isCryOf_0, qc]
theorem q_isCryOf0 (d : Nat) (A u : Mem) (h : RB A u) (q : Int) (h0 : 0 ≤ q ∧ q < 15) (hq : ¬ vQ A q) : sem (d + 3) 347 [137, q] u = some (0, u) := by
  have h1 := h.1.1
  unfold VC at h1
  unfold vQ at hq
  have e3 : u 138 3 = A 0 4 := h.2.1.2.2.2.1
  apply CV_eq; apply c_R_isCryOf
  have qc : sem (d + 2) 276 [137, q / 3, q % 3] u = some (0, u) := by
    rw [q_isCry d (q / 3) (q % 3) u (by omega), e3]
    by_cases x : q / 3 < A 0 4
    · rw [(h.2.2.2.1 (q / 3) (by omega)).2.1, if_neg (by omega)]
    · rw [if_neg (by omega)]
  simp (disch := first | assumption | omega) only [rn, wk, al, wr_e, td_e, tm_e, mset_eq, mset_ne, if_pos, if_neg, Int.reduceAdd, Int.reduceSub, Int.reduceMul, Int.reduceNeg, Int.reduceLT, Int.reduceLE, Int.reduceEq, Int.cast_ofNat_Int, eq_self, and_true, true_and, ite_self, true_or, or_true, false_or, or_false, and_false, false_and, not_true_eq_false, not_false_eq_true, if_true, if_false, e_R_isCryOf_0, qc]
theorem lp_pA2 (d : Nat) (A u : Mem) (hv : VB A) (ha : isA A u) (hf : ∀ q p, vQ A q → 0 ≤ p ∧ p < A 0 1 → fld A u q p) (e : Int) (he : 0 ≤ e ∧ e < 2 ^ (A 0 1).toNat) (a : Int) (haa : 0 ≤ a ∧ a < 15) (Q : Int → Mem → Prop) (q0 : ¬ DP A e → Q 0 u) (q1 : (∀ b, a < b → vQ A a → vQ A b → ¬ pa A e a b) → ∀ z, EV (d + 2) o_Parting_partsAll 59 [] [31, 37, e, a, z] u Q) : ∀ (n : Nat) (b : Int), a < b → b + n = 15 → (∀ b', a < b' → b' < b → vQ A a → vQ A b' → ¬ pa A e a b') → EV (d + 2) o_Parting_partsAll 13 [] [31, 37, e, a, b] u Q := by
  intro n
  induction n with
  | zero =>
    intro b h0 hb hx
    have hq := q1 (fun b' x y z => hx b' x (by unfold vQ at z; omega) y z) b
    rw [e_Parting_partsAll_13]
    simp (disch := first | assumption | omega) only [rn, wk, al, wr_e, td_e, tm_e, mset_eq, mset_ne, if_pos, if_neg, Int.reduceAdd, Int.reduceSub, Int.reduceMul, Int.reduceNeg, Int.reduceLT, Int.reduceLE, Int.reduceEq, Int.cast_ofNat_Int, eq_self, and_true, true_and, ite_self, true_or, or_true, false_or, or_false, and_false, false_and, not_true_eq_false, not_false_eq_true, if_true, if_false]
    exact hq
  | succ n ih =>
    intro b h0 hb hx
    rw [e_Parting_partsAll_13]
    by_cases ca : vQ A a
    · have t1 := q_isThere1 d A u hv ha a (by omega) ca
      by_cases cb : vQ A b
      · have t2 := q_isThere1 d A u hv ha b (by omega) cb
        simp (disch := first | assumption | omega) only [rn, wk, al, wr_e, td_e, tm_e, mset_eq, mset_ne, if_pos, if_neg, Int.reduceAdd, Int.reduceSub, Int.reduceMul, Int.reduceNeg, Int.reduceLT, Int.reduceLE, Int.reduceEq, Int.cast_ofNat_Int, eq_self, and_true, true_and, ite_self, true_or, or_true, false_or, or_false, and_false, false_and, not_true_eq_false, not_false_eq_true, if_true, if_false, t1, t2]
        refine EV_call (CV_mono (q_laterBy d A u hv a b e ca cb he hf) ?_)
        rintro v t ⟨rfl, hve⟩
        have hp := (enc_pa hve).1
        by_cases cv : v = 1000
        · simp (disch := first | assumption | omega) only [rn, wk, al, wr_e, td_e, tm_e, mset_eq, mset_ne, if_pos, if_neg, Int.reduceAdd, Int.reduceSub, Int.reduceMul, Int.reduceNeg, Int.reduceLT, Int.reduceLE, Int.reduceEq, Int.cast_ofNat_Int, eq_self, and_true, true_and, ite_self, true_or, or_true, false_or, or_false, and_false, false_and, not_true_eq_false, not_false_eq_true, if_true, if_false, e_Parting_partsAll_0, e_Parting_partsAll_53, e_Parting_partsAll_65]
          refine ih (b + 1) (by omega) (by omega) (fun b' x y z w => ?_)
          by_cases eb : b' = b
          · subst eb; exact hp.mp cv
          · exact hx b' x (by omega) z w
        · simp (disch := first | assumption | omega) only [rn, wk, al, wr_e, td_e, tm_e, mset_eq, mset_ne, if_pos, if_neg, Int.reduceAdd, Int.reduceSub, Int.reduceMul, Int.reduceNeg, Int.reduceLT, Int.reduceLE, Int.reduceEq, Int.cast_ofNat_Int, eq_self, and_true, true_and, ite_self, true_or, or_true, false_or, or_false, and_false, false_and, not_true_eq_false, not_false_eq_true, if_true, if_false, e_Parting_partsAll_0, e_Parting_partsAll_53, e_Parting_partsAll_65]
          exact q0 (fun hD => cv (hp.mpr (hD a b h0 ca cb)))
      · have t2 := q_isThere0 d A u hv ha b (by omega) cb
        simp (disch := first | assumption | omega) only [rn, wk, al, wr_e, td_e, tm_e, mset_eq, mset_ne, if_pos, if_neg, Int.reduceAdd, Int.reduceSub, Int.reduceMul, Int.reduceNeg, Int.reduceLT, Int.reduceLE, Int.reduceEq, Int.cast_ofNat_Int, eq_self, and_true, true_and, ite_self, true_or, or_true, false_or, or_false, and_false, false_and, not_true_eq_false, not_false_eq_true, if_true, if_false, e_Parting_partsAll_0, e_Parting_partsAll_53, e_Parting_partsAll_65, t1, t2]
        refine ih (b + 1) (by omega) (by omega) (fun b' x y z w => ?_)
        by_cases eb : b' = b
        · subst eb; exact absurd w cb
        · exact hx b' x (by omega) z w
    · have t1 := q_isThere0 d A u hv ha a (by omega) ca
      have hq := q1 (fun b' x y z => absurd y ca) b
      simp (disch := first | assumption | omega) only [rn, wk, al, wr_e, td_e, tm_e, mset_eq, mset_ne, if_pos, if_neg, Int.reduceAdd, Int.reduceSub, Int.reduceMul, Int.reduceNeg, Int.reduceLT, Int.reduceLE, Int.reduceEq, Int.cast_ofNat_Int, eq_self, and_true, true_and, ite_self, true_or, or_true, false_or, or_false, and_false, false_and, not_true_eq_false, not_false_eq_true, if_true, if_false, t1]
      exact hq
theorem lp_pA1 (d : Nat) (A u : Mem) (hv : VB A) (ha : isA A u) (hf : ∀ q p, vQ A q → 0 ≤ p ∧ p < A 0 1 → fld A u q p) (e : Int) (he : 0 ≤ e ∧ e < 2 ^ (A 0 1).toNat) (Q : Int → Mem → Prop) (q0 : ¬ DP A e → Q 0 u) (q1 : DP A e → Q 1 u) : ∀ (n : Nat) (a z : Int), 0 ≤ a → a + n = 15 → (∀ a' b, a' < a → a' < b → vQ A a' → vQ A b → ¬ pa A e a' b) → EV (d + 2) o_Parting_partsAll 2 [] [31, 37, e, a, z] u Q := by
  intro n
  induction n with
  | zero =>
    intro a z h0 hb hx
    rw [e_Parting_partsAll_2]
    simp (disch := first | assumption | omega) only [rn, wk, al, wr_e, td_e, tm_e, mset_eq, mset_ne, if_pos, if_neg, Int.reduceAdd, Int.reduceSub, Int.reduceMul, Int.reduceNeg, Int.reduceLT, Int.reduceLE, Int.reduceEq, Int.cast_ofNat_Int, eq_self, and_true, true_and, ite_self, true_or, or_true, false_or, or_false, and_false, false_and, not_true_eq_false, not_false_eq_true, if_true, if_false, e_Parting_partsAll_0, e_Parting_partsAll_53, e_Parting_partsAll_59, e_Parting_partsAll_65]
    exact q1 (fun a' b x y w => hx a' b (by unfold vQ at y; omega) x y w)
  | succ n ih =>
    intro a z h0 hb hx
    rw [e_Parting_partsAll_2]
    simp (disch := first | assumption | omega) only [rn, wk, al, wr_e, td_e, tm_e, mset_eq, mset_ne, if_pos, if_neg, Int.reduceAdd, Int.reduceSub, Int.reduceMul, Int.reduceNeg, Int.reduceLT, Int.reduceLE, Int.reduceEq, Int.cast_ofNat_Int, eq_self, and_true, true_and, ite_self, true_or, or_true, false_or, or_false, and_false, false_and, not_true_eq_false, not_false_eq_true, if_true, if_false]
    refine lp_pA2 d A u hv ha hf e he a (by omega) Q q0 ?_ (14 - a).toNat (a + 1) (by omega) (by omega) (fun b' x y => by omega)
    intro hy z'
    simp (disch := first | assumption | omega) only [rn, wk, al, wr_e, td_e, tm_e, mset_eq, mset_ne, if_pos, if_neg, Int.reduceAdd, Int.reduceSub, Int.reduceMul, Int.reduceNeg, Int.reduceLT, Int.reduceLE, Int.reduceEq, Int.cast_ofNat_Int, eq_self, and_true, true_and, ite_self, true_or, or_true, false_or, or_false, and_false, false_and, not_true_eq_false, not_false_eq_true, if_true, if_false, e_Parting_partsAll_0, e_Parting_partsAll_53, e_Parting_partsAll_59, e_Parting_partsAll_65]
    refine ih (a + 1) _ (by omega) (by omega) (fun a' b x y w v => ?_)
    by_cases ea : a' = a
    · subst ea; exact hy b y w v
    · exact hx a' b (by omega) y w v
theorem q_partsAll (d : Nat) (A u : Mem) (hv : VB A) (ha : isA A u) (hf : ∀ q p, vQ A q → 0 ≤ p ∧ p < A 0 1 → fld A u q p) (e : Int) (he : 0 ≤ e ∧ e < 2 ^ (A 0 1).toNat) : CV (d + 3) 180 [31, 37, e] u fun r t => t = u ∧ ((r = 1 ∧ DP A e) ∨ (r = 0 ∧ ¬ DP A e)) := by
  apply c_Parting_partsAll
  simp (disch := first | assumption | omega) only [rn, wk, al, wr_e, td_e, tm_e, mset_eq, mset_ne, if_pos, if_neg, Int.reduceAdd, Int.reduceSub, Int.reduceMul, Int.reduceNeg, Int.reduceLT, Int.reduceLE, Int.reduceEq, Int.cast_ofNat_Int, eq_self, and_true, true_and, ite_self, true_or, or_true, false_or, or_false, and_false, false_and, not_true_eq_false, not_false_eq_true, if_true, if_false, e_Parting_partsAll_0, e_Parting_partsAll_53, e_Parting_partsAll_59, e_Parting_partsAll_65]
  exact lp_pA1 d A u hv ha hf e he _ (fun x => ⟨rfl, Or.inr ⟨rfl, x⟩⟩) (fun x => ⟨rfl, Or.inl ⟨rfl, x⟩⟩) 15 0 0 (by omega) (by omega) (fun a' b x y w => by unfold vQ at w; omega)
theorem lp_dP2 (d : Nat) (A u : Mem) (h : RB A u) (e : Int) (he : 0 ≤ e ∧ e < 128) (a : Int) (haa : 0 ≤ a ∧ a < 15) (Q : Int → Mem → Prop) (q0 : ¬ DP A e → Q 0 u) (q1 : (∀ b, a < b → vQ A a → vQ A b → ¬ pa A e a b) → ∀ z, EV (d + 6) o_R_doesPart 55 [] [137, e, a, z] u Q) : ∀ (n : Nat) (b : Int), a < b → b + n = 15 → (∀ b', a < b' → b' < b → vQ A a → vQ A b' → ¬ pa A e a b') → EV (d + 6) o_R_doesPart 12 [] [137, e, a, b] u Q := by
  intro n
  induction n with
  | zero =>
    intro b h0 hb hx
    have hq := q1 (fun b' x y z => hx b' x (by unfold vQ at z; omega) y z) b
    rw [e_R_doesPart_12]
    simp (disch := first | assumption | omega) only [rn, wk, al, wr_e, td_e, tm_e, mset_eq, mset_ne, if_pos, if_neg, Int.reduceAdd, Int.reduceSub, Int.reduceMul, Int.reduceNeg, Int.reduceLT, Int.reduceLE, Int.reduceEq, Int.cast_ofNat_Int, eq_self, and_true, true_and, ite_self, true_or, or_true, false_or, or_false, and_false, false_and, not_true_eq_false, not_false_eq_true, if_true, if_false]
    exact hq
  | succ n ih =>
    intro b h0 hb hx
    rw [e_R_doesPart_12]
    by_cases ca : vQ A a
    · have t1 := q_isCryOf1 (d + 3) A u h a (by omega) ca
      by_cases cb : vQ A b
      · have t2 := q_isCryOf1 (d + 3) A u h b (by omega) cb
        obtain ⟨v, hve⟩ := enc_ex h.1 e a b ca cb 7
        have hve : enc v (Gs A a b e 7) := hve
        have ql := q_laterOf d A u h a b e v ca cb he hve
        have hp := (enc_pa hve).2
        by_cases cv : lo2 v = 1000000
        · simp (disch := first | assumption | omega) only [rn, wk, al, wr_e, td_e, tm_e, mset_eq, mset_ne, if_pos, if_neg, Int.reduceAdd, Int.reduceSub, Int.reduceMul, Int.reduceNeg, Int.reduceLT, Int.reduceLE, Int.reduceEq, Int.cast_ofNat_Int, eq_self, and_true, true_and, ite_self, true_or, or_true, false_or, or_false, and_false, false_and, not_true_eq_false, not_false_eq_true, if_true, if_false, e_R_doesPart_0, e_R_doesPart_49, e_R_doesPart_61, t1, t2, ql]
          refine ih (b + 1) (by omega) (by omega) (fun b' x y z w => ?_)
          by_cases eb : b' = b
          · subst eb; exact hp.mp cv
          · exact hx b' x (by omega) z w
        · simp (disch := first | assumption | omega) only [rn, wk, al, wr_e, td_e, tm_e, mset_eq, mset_ne, if_pos, if_neg, Int.reduceAdd, Int.reduceSub, Int.reduceMul, Int.reduceNeg, Int.reduceLT, Int.reduceLE, Int.reduceEq, Int.cast_ofNat_Int, eq_self, and_true, true_and, ite_self, true_or, or_true, false_or, or_false, and_false, false_and, not_true_eq_false, not_false_eq_true, if_true, if_false, e_R_doesPart_0, e_R_doesPart_49, e_R_doesPart_61, t1, t2, ql]
          exact q0 (fun hD => cv (hp.mpr (hD a b h0 ca cb)))
      · have t2 := q_isCryOf0 (d + 3) A u h b (by omega) cb
        simp (disch := first | assumption | omega) only [rn, wk, al, wr_e, td_e, tm_e, mset_eq, mset_ne, if_pos, if_neg, Int.reduceAdd, Int.reduceSub, Int.reduceMul, Int.reduceNeg, Int.reduceLT, Int.reduceLE, Int.reduceEq, Int.cast_ofNat_Int, eq_self, and_true, true_and, ite_self, true_or, or_true, false_or, or_false, and_false, false_and, not_true_eq_false, not_false_eq_true, if_true, if_false, e_R_doesPart_0, e_R_doesPart_49, e_R_doesPart_61, t1, t2]
        refine ih (b + 1) (by omega) (by omega) (fun b' x y z w => ?_)
        by_cases eb : b' = b
        · subst eb; exact absurd w cb
        · exact hx b' x (by omega) z w
    · have t1 := q_isCryOf0 (d + 3) A u h a (by omega) ca
      have hq := q1 (fun b' x y z => absurd y ca) b
      simp (disch := first | assumption | omega) only [rn, wk, al, wr_e, td_e, tm_e, mset_eq, mset_ne, if_pos, if_neg, Int.reduceAdd, Int.reduceSub, Int.reduceMul, Int.reduceNeg, Int.reduceLT, Int.reduceLE, Int.reduceEq, Int.cast_ofNat_Int, eq_self, and_true, true_and, ite_self, true_or, or_true, false_or, or_false, and_false, false_and, not_true_eq_false, not_false_eq_true, if_true, if_false, t1]
      exact hq
theorem lp_dP1 (d : Nat) (A u : Mem) (h : RB A u) (e : Int) (he : 0 ≤ e ∧ e < 128) (Q : Int → Mem → Prop) (q0 : ¬ DP A e → Q 0 u) (q1 : DP A e → Q 1 u) : ∀ (n : Nat) (a z : Int), 0 ≤ a → a + n = 15 → (∀ a' b, a' < a → a' < b → vQ A a' → vQ A b → ¬ pa A e a' b) → EV (d + 6) o_R_doesPart 2 [] [137, e, a, z] u Q := by
  intro n
  induction n with
  | zero =>
    intro a z h0 hb hx
    rw [e_R_doesPart_2]
    simp (disch := first | assumption | omega) only [rn, wk, al, wr_e, td_e, tm_e, mset_eq, mset_ne, if_pos, if_neg, Int.reduceAdd, Int.reduceSub, Int.reduceMul, Int.reduceNeg, Int.reduceLT, Int.reduceLE, Int.reduceEq, Int.cast_ofNat_Int, eq_self, and_true, true_and, ite_self, true_or, or_true, false_or, or_false, and_false, false_and, not_true_eq_false, not_false_eq_true, if_true, if_false, e_R_doesPart_0, e_R_doesPart_49, e_R_doesPart_55, e_R_doesPart_61]
    exact q1 (fun a' b x y w => hx a' b (by unfold vQ at y; omega) x y w)
  | succ n ih =>
    intro a z h0 hb hx
    rw [e_R_doesPart_2]
    simp (disch := first | assumption | omega) only [rn, wk, al, wr_e, td_e, tm_e, mset_eq, mset_ne, if_pos, if_neg, Int.reduceAdd, Int.reduceSub, Int.reduceMul, Int.reduceNeg, Int.reduceLT, Int.reduceLE, Int.reduceEq, Int.cast_ofNat_Int, eq_self, and_true, true_and, ite_self, true_or, or_true, false_or, or_false, and_false, false_and, not_true_eq_false, not_false_eq_true, if_true, if_false]
    refine lp_dP2 d A u h e he a (by omega) Q q0 ?_ (14 - a).toNat (a + 1) (by omega) (by omega) (fun b' x y => by omega)
    intro hy z'
    simp (disch := first | assumption | omega) only [rn, wk, al, wr_e, td_e, tm_e, mset_eq, mset_ne, if_pos, if_neg, Int.reduceAdd, Int.reduceSub, Int.reduceMul, Int.reduceNeg, Int.reduceLT, Int.reduceLE, Int.reduceEq, Int.cast_ofNat_Int, eq_self, and_true, true_and, ite_self, true_or, or_true, false_or, or_false, and_false, false_and, not_true_eq_false, not_false_eq_true, if_true, if_false, e_R_doesPart_0, e_R_doesPart_49, e_R_doesPart_55, e_R_doesPart_61]
    refine ih (a + 1) _ (by omega) (by omega) (fun a' b x y w v => ?_)
    by_cases ea : a' = a
    · subst ea; exact hy b y w v
    · exact hx a' b (by omega) y w v
theorem q_doesPart (d : Nat) (A u : Mem) (h : RB A u) (e : Int) (he : 0 ≤ e ∧ e < 128) : CV (d + 7) 346 [137, e] u fun r t => t = u ∧ ((r = 1 ∧ DP A e) ∨ (r = 0 ∧ ¬ DP A e)) := by
  apply c_R_doesPart
  simp (disch := first | assumption | omega) only [rn, wk, al, wr_e, td_e, tm_e, mset_eq, mset_ne, if_pos, if_neg, Int.reduceAdd, Int.reduceSub, Int.reduceMul, Int.reduceNeg, Int.reduceLT, Int.reduceLE, Int.reduceEq, Int.cast_ofNat_Int, eq_self, and_true, true_and, ite_self, true_or, or_true, false_or, or_false, and_false, false_and, not_true_eq_false, not_false_eq_true, if_true, if_false, e_R_doesPart_0, e_R_doesPart_49, e_R_doesPart_55, e_R_doesPart_61]
  exact lp_dP1 d A u h e he _ (fun x => ⟨rfl, Or.inr ⟨rfl, x⟩⟩) (fun x => ⟨rfl, Or.inl ⟨rfl, x⟩⟩) 15 0 0 (by omega) (by omega) (fun a' b x y w => by unfold vQ at w; omega)
theorem p128 {n : Int} (h : 0 ≤ n ∧ n ≤ 7) : (0 : Int) < 2 ^ n.toNat ∧ (2 : Int) ^ n.toNat ≤ 128 := by
  obtain rfl | rfl | rfl | rfl | rfl | rfl | rfl | rfl : n = 0 ∨ n = 1 ∨ n = 2 ∨ n = 3 ∨ n = 4 ∨ n = 5 ∨ n = 6 ∨ n = 7 := by omega
  all_goals decide
theorem lsh_p {n : Int} (h : 0 ≤ n ∧ n ≤ 7) : lshl_ 1 n = 2 ^ n.toNat := by
  obtain rfl | rfl | rfl | rfl | rfl | rfl | rfl | rfl : n = 0 ∨ n = 1 ∨ n = 2 ∨ n = 3 ∨ n = 4 ∨ n = 5 ∨ n = 6 ∨ n = 7 := by omega
  all_goals decide
theorem ak_parts (d : Nat) (e : Int) : Ak (d + 30) 179 345 [e] := by
  apply ak_of; intro s hi
  have hc := inv_c hi
  have hr := inv_rc hi
  have hv := VB_of (inv_va hi)
  have p2 := p128 (n := s 37 1) (by omega)
  have e1 := ish_1 (n := s 37 1) (by omega)
  have e2 := lsh_p (n := s 37 1) (by omega)
  by_cases c1 : 0 ≤ e ∧ e < 2 ^ (s 37 1).toNat
  · apply c_M_parts
    simp (disch := first | assumption | omega) only [rn, wk, al, wr_e, td_e, tm_e, mset_eq, mset_ne, if_pos, if_neg, Int.reduceAdd, Int.reduceSub, Int.reduceMul, Int.reduceNeg, Int.reduceLT, Int.reduceLE, Int.reduceEq, Int.cast_ofNat_Int, eq_self, and_true, true_and, ite_self, true_or, or_true, false_or, or_false, and_false, false_and, not_true_eq_false, not_false_eq_true, if_true, if_false, e_M_parts_0, e_M_parts_17, e_M_parts_54, e_M_parts_55, e1]
    rw [e_M_parts_23]
    simp (disch := first | assumption | omega) only [rn, wk, al, wr_e, td_e, tm_e, mset_eq, mset_ne, if_pos, if_neg, Int.reduceAdd, Int.reduceSub, Int.reduceMul, Int.reduceNeg, Int.reduceLT, Int.reduceLE, Int.reduceEq, Int.cast_ofNat_Int, eq_self, and_true, true_and, ite_self, true_or, or_true, false_or, or_false, and_false, false_and, not_true_eq_false, not_false_eq_true, if_true, if_false]
    refine EV_call (CV_mono (q_listen _ (win s 37) s rfl hv) ?_)
    rintro r v ⟨v1, v2⟩
    have hA : isA (win s 37) v := ⟨v1 _ _ (by omega) (by omega), funext fun i => v1 _ _ (by omega) (by omega), v1 _ _ (by omega) (by omega)⟩
    have e138 : ∀ p, mset v 0 0 p 138 = s 138 := fun p => by rw [mset_nc (by omega)]; funext i; exact v1 _ _ (by omega) (by omega)
    have hR : ∀ Q : Int → Mem → Prop, (∀ u, Fx (mset v 0 0 0) 146 u → (DP (win s 37) e → Q 1 (mset u 137 2 0)) ∧ (¬ DP (win s 37) e → Q 0 (mset u 137 2 0))) → CV (d + 30) 345 [137, e] (mset v 0 0 0) Q := by
      intro Q hq
      have g0 : mset v 0 0 0 138 0 = s 37 1 := by rw [e138]; omega
      have g0' : v 138 0 = s 37 1 := by rw [v1 _ _ (by omega) (by omega)]; omega
      apply c_R_parts
      simp (disch := first | assumption | omega) only [rn, wk, al, wr_e, td_e, tm_e, mset_eq, mset_ne, if_pos, if_neg, Int.reduceAdd, Int.reduceSub, Int.reduceMul, Int.reduceNeg, Int.reduceLT, Int.reduceLE, Int.reduceEq, Int.cast_ofNat_Int, eq_self, and_true, true_and, ite_self, true_or, or_true, false_or, or_false, and_false, false_and, not_true_eq_false, not_false_eq_true, if_true, if_false, e_R_parts_0, e_R_parts_42, e_R_parts_43, g0', e2, wl_e, q_isFrom]
      rw [e_R_parts_25]
      simp (disch := first | assumption | omega) only [rn, wk, al, wr_e, td_e, tm_e, mset_eq, mset_ne, if_pos, if_neg, Int.reduceAdd, Int.reduceSub, Int.reduceMul, Int.reduceNeg, Int.reduceLT, Int.reduceLE, Int.reduceEq, Int.cast_ofNat_Int, eq_self, and_true, true_and, ite_self, true_or, or_true, false_or, or_false, and_false, false_and, not_true_eq_false, not_false_eq_true, if_true, if_false]
      refine EV_call (CV_mono (rb_far hi _ (e138 0)) ?_)
      rintro r' u ⟨u1, u2⟩
      obtain ⟨k1, k2⟩ := hq u u1
      refine EV_call (CV_mono (q_doesPart _ (win s 37) u u2 e (by omega)) ?_)
      rintro r2 t ⟨rfl, ⟨rfl, x⟩ | ⟨rfl, x⟩⟩
      · simp (disch := first | assumption | omega) only [rn, wk, al, wr_e, td_e, tm_e, mset_eq, mset_ne, if_pos, if_neg, Int.reduceAdd, Int.reduceSub, Int.reduceMul, Int.reduceNeg, Int.reduceLT, Int.reduceLE, Int.reduceEq, Int.cast_ofNat_Int, eq_self, and_true, true_and, ite_self, true_or, or_true, false_or, or_false, and_false, false_and, not_true_eq_false, not_false_eq_true, if_true, if_false, e_R_parts_0, e_R_parts_25, e_R_parts_42, e_R_parts_43, q_gives]
        exact k1 x
      · simp (disch := first | assumption | omega) only [rn, wk, al, wr_e, td_e, tm_e, mset_eq, mset_ne, if_pos, if_neg, Int.reduceAdd, Int.reduceSub, Int.reduceMul, Int.reduceNeg, Int.reduceLT, Int.reduceLE, Int.reduceEq, Int.cast_ofNat_Int, eq_self, and_true, true_and, ite_self, true_or, or_true, false_or, or_false, and_false, false_and, not_true_eq_false, not_false_eq_true, if_true, if_false, e_R_parts_0, e_R_parts_25, e_R_parts_42, e_R_parts_43, q_gives]
        exact k2 x
    refine EV_call (CV_mono (q_partsAll _ (win s 37) v hv hA v2 e c1) ?_)
    rintro r2 t ⟨rfl, ⟨rfl, x⟩ | ⟨rfl, x⟩⟩
    · simp (disch := first | assumption | omega) only [rn, wk, al, wr_e, td_e, tm_e, mset_eq, mset_ne, if_pos, if_neg, Int.reduceAdd, Int.reduceSub, Int.reduceMul, Int.reduceNeg, Int.reduceLT, Int.reduceLE, Int.reduceEq, Int.cast_ofNat_Int, eq_self, and_true, true_and, ite_self, true_or, or_true, false_or, or_false, and_false, false_and, not_true_eq_false, not_false_eq_true, if_true, if_false, e_M_parts_0, e_M_parts_17, e_M_parts_23, e_M_parts_54, e_M_parts_55, q_pass]
      refine hR _ (fun u u1 => ⟨fun _ => ⟨rfl, inv_part 0 hi (fun c i h => v1 c i (by omega) (by omega)) rfl u1⟩, fun y => absurd x y⟩)
    · simp (disch := first | assumption | omega) only [rn, wk, al, wr_e, td_e, tm_e, mset_eq, mset_ne, if_pos, if_neg, Int.reduceAdd, Int.reduceSub, Int.reduceMul, Int.reduceNeg, Int.reduceLT, Int.reduceLE, Int.reduceEq, Int.cast_ofNat_Int, eq_self, and_true, true_and, ite_self, true_or, or_true, false_or, or_false, and_false, false_and, not_true_eq_false, not_false_eq_true, if_true, if_false, e_M_parts_0, e_M_parts_17, e_M_parts_23, e_M_parts_54, e_M_parts_55, q_pass]
      refine hR _ (fun u u1 => ⟨fun y => absurd y x, fun _ => ⟨rfl, inv_part 0 hi (fun c i h => v1 c i (by omega) (by omega)) rfl u1⟩⟩)
  · have hm : CV (d + 30) 345 [137, e] (mset s 0 0 1) fun r' u => r' = -1 ∧ Inv u := by
      have g0 : s 138 0 = s 37 1 := by omega
      apply c_R_parts
      simp (disch := first | assumption | omega) only [rn, wk, al, wr_e, td_e, tm_e, mset_eq, mset_ne, if_pos, if_neg, Int.reduceAdd, Int.reduceSub, Int.reduceMul, Int.reduceNeg, Int.reduceLT, Int.reduceLE, Int.reduceEq, Int.cast_ofNat_Int, eq_self, and_true, true_and, ite_self, true_or, or_true, false_or, or_false, and_false, false_and, not_true_eq_false, not_false_eq_true, if_true, if_false, e_R_parts_0, e_R_parts_25, e_R_parts_42, e_R_parts_43, g0, e2, wl_e, q_isFrom, q_refuse]
      exact inv_st 1 hi
    apply c_M_parts
    simp (disch := first | assumption | omega) only [rn, wk, al, wr_e, td_e, tm_e, mset_eq, mset_ne, if_pos, if_neg, Int.reduceAdd, Int.reduceSub, Int.reduceMul, Int.reduceNeg, Int.reduceLT, Int.reduceLE, Int.reduceEq, Int.cast_ofNat_Int, eq_self, and_true, true_and, ite_self, true_or, or_true, false_or, or_false, and_false, false_and, not_true_eq_false, not_false_eq_true, if_true, if_false, e_M_parts_0, e_M_parts_17, e_M_parts_23, e_M_parts_54, e_M_parts_55, e1, q_fail]
    repeat' split
    all_goals first | exact hm | omega
