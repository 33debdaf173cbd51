/-! ===== H2: findSlips ===== -/
theorem lp_we (d : Nat) (A s : Mem) (hv : VB A) (hS : SJ A s (fun x b => A 10 (4 * b + x))) (Q : Int → Mem → Prop) (hQ : ∀ r t, (∀ c i, c ≠ 23 → t c i = s c i) → SC A t → (-364 ≤ r ∧ r ≤ 0) → (∀ v, 0 ≤ v ∧ v < 315 → 0 < bq A (v / 21) → r ≤ n1 A v - n0 A) → Q r t) : ∀ (n : Nat) (v low : Int) (t : Mem), 0 ≤ v → v + n = 315 → (∀ c i, c ≠ 23 → t c i = s c i) → (∀ w, 0 ≤ w ∧ w < v → 0 < bq A (w / 21) → t 23 w = n1 A w - n0 A) → (-364 ≤ low ∧ low ≤ 0) → (∀ w, 0 ≤ w ∧ w < v → 0 < bq A (w / 21) → low ≤ n1 A w - n0 A) → EV (d + 2) o_Guess_weighEach 4 [] [14, low, v] t Q := by
  have na0' : 0 ≤ n0 A ∧ n0 A ≤ 364 := nzz_b _
  intro n
  induction n with
  | zero =>
    intro v low t h0 hn hf hc hl hw
    have ev : v = 315 := by omega
    subst ev
    have hq := hQ low t hf hc hl hw
    rw [e_Guess_weighEach_4]
    simp (disch := first | assumption | omega) only [rn, wk, al, wr_e, td_e, tm_e, mset_eq, mset_ne, if_pos, if_neg, Int.reduceAdd, Int.reduceSub, Int.reduceMul, Int.reduceNeg, Int.reduceLT, Int.reduceLE, Int.reduceEq, Int.cast_ofNat_Int, eq_self, and_true, true_and, ite_self, true_or, or_true, false_or, or_false, and_false, false_and, not_true_eq_false, not_false_eq_true, if_true, if_false, e_Guess_weighEach_0, e_Guess_weighEach_45, e_Guess_weighEach_51]
    exact hq
  | succ n ih =>
    intro v low t h0 hn hf hc hl hw
    obtain ⟨j1, j2, j3, j4⟩ := hS
    have eB : t 22 (v / 21) = bq A (v / 21) := by rw [hf _ _ (by omega)]; exact j2 (v / 21) (by omega)
    have bb := bq_b hv (v / 21)
    have nb : 0 ≤ n1 A v ∧ n1 A v ≤ 364 := nzz_b _
    rw [e_Guess_weighEach_4]
    by_cases cb : 0 < bq A (v / 21)
    · have hvk : vK A v := ⟨by omega, by omega, bq_p cb⟩
      have hcb := q_changeBy d A t hv (PG_congr (fun c i hc => hf _ _ (by omega)) j1) v hvk
      have e18 : nzz (fun x b => t 18 (4 * b + x) - pX A v x b) = n1 A v := nzz_congr (fun x y hx hy => by rw [hf _ _ (by omega), j3 x y hx hy])
      have e18' : nzz (fun x b => t 18 (4 * b + x)) = n0 A := nzz_congr (fun x y hx hy => by rw [hf _ _ (by omega), j3 x y hx hy])
      rw [e18, e18'] at hcb
      obtain ⟨lo, hlo, l1, l2, l3⟩ : ∃ lo, min low (n1 A v - n0 A) = lo ∧ lo ≤ low ∧ lo ≤ n1 A v - n0 A ∧ (lo = low ∨ lo = n1 A v - n0 A) := ⟨_, rfl, by omega, by omega, by omega⟩
      have hx2 := ih (v + 1) lo (mset t 23 v (n1 A v - n0 A)) (by omega) (by omega) (fun c i h => by rw [mset_ne (by omega)]; exact hf c i h) (fun w hw' hb => by
        by_cases e : w = v
        · rw [e, mset_eq rfl rfl]
        · rw [mset_ne (by omega)]; exact hc w (by omega) hb) (by omega) (fun w hw' hb => by
        by_cases e : w = v
        · rw [e]; exact l2
        · have := hw w (by omega) hb; omega)
      simp (disch := first | assumption | omega) only [rn, wk, al, wr_e, td_e, tm_e, mset_eq, mset_ne, if_pos, if_neg, Int.reduceAdd, Int.reduceSub, Int.reduceMul, Int.reduceNeg, Int.reduceLT, Int.reduceLE, Int.reduceEq, Int.cast_ofNat_Int, eq_self, and_true, true_and, ite_self, true_or, or_true, false_or, or_false, and_false, false_and, not_true_eq_false, not_false_eq_true, if_true, if_false, e_Guess_weighEach_0, e_Guess_weighEach_45, e_Guess_weighEach_51, eB, hcb, hlo]
      exact hx2
    · have hx2 := ih (v + 1) low t (by omega) (by omega) hf (fun w hw' hb => by
        by_cases e : w = v
        · rw [e] at hb; exact absurd hb cb
        · exact hc w (by omega) hb) hl (fun w hw' hb => by
        by_cases e : w = v
        · rw [e] at hb; exact absurd hb cb
        · exact hw w (by omega) hb)
      simp (disch := first | assumption | omega) only [rn, wk, al, wr_e, td_e, tm_e, mset_eq, mset_ne, if_pos, if_neg, Int.reduceAdd, Int.reduceSub, Int.reduceMul, Int.reduceNeg, Int.reduceLT, Int.reduceLE, Int.reduceEq, Int.cast_ofNat_Int, eq_self, and_true, true_and, ite_self, true_or, or_true, false_or, or_false, and_false, false_and, not_true_eq_false, not_false_eq_true, if_true, if_false, e_Guess_weighEach_0, e_Guess_weighEach_45, e_Guess_weighEach_51, eB]
      exact hx2
theorem q_weighEach (d : Nat) (A s : Mem) (hv : VB A) (hS : SJ A s (fun x b => A 10 (4 * b + x))) : CV (d + 3) 157 [14] s fun r t => (∀ c i, c ≠ 23 → t c i = s c i) ∧ SC A t ∧ (-364 ≤ r ∧ r ≤ 0) ∧ ∀ v, 0 ≤ v ∧ v < 315 → 0 < bq A (v / 21) → r ≤ n1 A v - n0 A := by
  apply c_Guess_weighEach
  have hx := lp_we d A s hv hS (fun r t => (∀ c i, c ≠ 23 → t c i = s c i) ∧ SC A t ∧ (-364 ≤ r ∧ r ≤ 0) ∧ ∀ v, 0 ≤ v ∧ v < 315 → 0 < bq A (v / 21) → r ≤ n1 A v - n0 A) (fun r t a b c e => ⟨a, b, c, e⟩) 315 0 0 s (by omega) (by omega) (fun _ _ _ => rfl) (fun w hw => by omega) (by omega) (fun w hw => by omega)
  simp (disch := first | assumption | omega) only [rn, wk, al, wr_e, td_e, tm_e, mset_eq, mset_ne, if_pos, if_neg, Int.reduceAdd, Int.reduceSub, Int.reduceMul, Int.reduceNeg, Int.reduceLT, Int.reduceLE, Int.reduceEq, Int.cast_ofNat_Int, eq_self, and_true, true_and, ite_self, true_or, or_true, false_or, or_false, and_false, false_and, not_true_eq_false, not_false_eq_true, if_true, if_false, e_Guess_weighEach_0, e_Guess_weighEach_45, e_Guess_weighEach_51]
  exact hx
def Fgs (s t : Mem) : Prop := ∀ c i, ¬ (14 ≤ c ∧ c ≤ 23) → t c i = s c i
theorem sUp_b {st : Bst} {v c o t : Int} (hv : 0 ≤ v ∧ v ≤ 364) (h : 0 ≤ st.1 ∧ st.1 ≤ 400) : 0 ≤ (sUp st v c o t).1 ∧ (sUp st v c o t).1 ≤ 400 := by
  unfold sUp
  split
  · show 0 ≤ v ∧ v ≤ 400; omega
  · exact h
theorem sF2_b (A : Mem) (a : Int) : ∀ (n : Nat) (b : Int) (st : Bst), (0 ≤ st.1 ∧ st.1 ≤ 400) → 0 ≤ (sF2 A a n b st).1 ∧ (sF2 A a n b st).1 ≤ 400 := by
  intro n
  induction n with
  | zero => intro b st h; exact h
  | succ n ih =>
    intro b st h
    show 0 ≤ (sF2 A a n (b + 1) (if 0 < bq A (b / 21) then sUp st (n2 A a b) 2 a b else st)).1 ∧ (sF2 A a n (b + 1) (if 0 < bq A (b / 21) then sUp st (n2 A a b) 2 a b else st)).1 ≤ 400
    refine ih _ _ ?_
    by_cases c : 0 < bq A (b / 21)
    · rw [if_pos c]; exact sUp_b (nzz_b _) h
    · rw [if_neg c]; exact h
theorem cR_up {st : Bst} {t : Mem} {v a : Int} (h : v < st.1) : cR (sUp st v 1 a (-1)) (mset (mset (mset t 14 0 v) 14 3 1) 15 0 a) := by
  rw [sUp_y h]
  exact ⟨by rw [mset_ne (by omega), mset_ne (by omega), mset_eq rfl rfl], by rw [mset_ne (by omega), mset_eq rfl rfl], fun _ => by rw [mset_eq rfl rfl], fun h => by have h' : (2 : Int) ≤ 1 := h; omega⟩
theorem lp_fsl (d : Nat) (A s : Mem) (hv : VB A) (hr : ∀ j, 0 ≤ j ∧ j < 364 → 0 ≤ A 10 j ∧ A 10 j ≤ 999) (m low : Int) (hm : 0 < m ∧ m ≤ 2) (hlow : -364 ≤ low ∧ low ≤ 0) (hlw : ∀ v, 0 ≤ v ∧ v < 315 → 0 < bq A (v / 21) → low ≤ n1 A v - n0 A) (Q : Int → Mem → Prop) (E : Bst) (hQ : ∀ t, Fgs s t → cR E t → Q 0 t) : ∀ (n : Nat) (a : Int) (st : Bst) (t : Mem), 0 ≤ a → a + n = 315 → (0 ≤ st.1 ∧ st.1 ≤ 400) → Fgs s t → SJ A t (fun x b => A 10 (4 * b + x)) → t 14 7 = sg (A 10) 0 364 → SC A t → cR st t → sF1 A m n a st = E → EV (d + 4) o_Guess_findSlips 67 [] [14, 37, m, n0 A, low, a] t Q := by
  have na0' : 0 ≤ n0 A ∧ n0 A ≤ 364 := nzz_b _
  intro n
  induction n with
  | zero =>
    intro a st t h0 ha hs hf hS h7 hC hc he
    have ea : a = 315 := by omega
    subst ea
    have hq := hQ t hf (by rw [← he]; exact hc)
    rw [e_Guess_findSlips_67]
    simp (disch := first | assumption | omega) only [rn, wk, al, wr_e, td_e, tm_e, mset_eq, mset_ne, if_pos, if_neg, Int.reduceAdd, Int.reduceSub, Int.reduceMul, Int.reduceNeg, Int.reduceLT, Int.reduceLE, Int.reduceEq, Int.cast_ofNat_Int, eq_self, and_true, true_and, ite_self, true_or, or_true, false_or, or_false, and_false, false_and, not_true_eq_false, not_false_eq_true, if_true, if_false, e_Guess_findSlips_0, e_Guess_findSlips_42, e_Guess_findSlips_43, e_Guess_findSlips_53, e_Guess_findSlips_95, e_Guess_findSlips_137, e_Guess_findSlips_179, e_Guess_findSlips_185]
    exact hq
  | succ n ih =>
    intro a st t h0 ha hs hf hS h7 hC hc he
    have eB := hS.2.1 (a / 21) (by omega)
    have bb := bq_b hv (a / 21)
    have na : 0 ≤ n1 A a ∧ n1 A a ≤ 364 := nzz_b _
    have he' : sF1 A m n (a + 1) (if 0 < bq A (a / 21) then (if 1 < m then sF2 A a n (a + 1) (sUp st (n1 A a) 1 a (-1)) else sUp st (n1 A a) 1 a (-1)) else st) = E := he
    rw [e_Guess_findSlips_67]
    by_cases cb : 0 < bq A (a / 21)
    · have hak : vK A a := ⟨by omega, by omega, bq_p cb⟩
      rw [if_pos cb] at he'
      have ec := hC a (by omega) cb
      have e1 : n0 A + (n1 A a - n0 A) = n1 A a := by omega
      have m14 := hc.1
      have sb := sUp_b (c := 1) (o := a) (t := -1) na hs
      have key : ∀ t', Fsk t t' → cR (sUp st (n1 A a) 1 a (-1)) t' → EV (d + 4) o_Guess_findSlips 137 [] [14, 37, m, n0 A, low, a] t' Q := by
        intro t' ht' hc'
        have hS' := SJ_congr ht' hS
        have eB' : t' 22 (a / 21) = bq A (a / 21) := by rw [ht' _ _ (by omega) (by omega)]; exact eB
        have ec' : t' 23 a = n1 A a - n0 A := by rw [ht' _ _ (by omega) (by omega)]; exact ec
        have hC' : SC A t' := fun v hv hb => by rw [ht' _ _ (by omega) (by omega)]; exact hC v hv hb
        have h7' : t' 14 7 = sg (A 10) 0 364 := by rw [ht' _ _ (by omega) (by omega)]; exact h7
        have hf' : Fgs s t' := fun c i h => by rw [ht' c i (by omega) (by omega)]; exact hf c i h
        have m14' := hc'.1
        by_cases cm : 1 < m
        · rw [if_pos cm] at he'
          by_cases cp : n1 A a + low - bq A (a / 21) < (sUp st (n1 A a) 1 a (-1)).1
          · simp (disch := first | assumption | omega) only [rn, wk, al, wr_e, td_e, tm_e, mset_eq, mset_ne, if_pos, if_neg, Int.reduceAdd, Int.reduceSub, Int.reduceMul, Int.reduceNeg, Int.reduceLT, Int.reduceLE, Int.reduceEq, Int.cast_ofNat_Int, eq_self, and_true, true_and, ite_self, true_or, or_true, false_or, or_false, and_false, false_and, not_true_eq_false, not_false_eq_true, if_true, if_false, e_Guess_findSlips_0, e_Guess_findSlips_42, e_Guess_findSlips_43, e_Guess_findSlips_53, e_Guess_findSlips_95, e_Guess_findSlips_137, e_Guess_findSlips_185, eB', ec', m14', e1]
            refine EV_call (CV_mono (q_findSecond (d + 1) A t' hv hr a hak cb hS' h7' hC' _ sb hc') ?_)
            rintro r y ⟨y1, y2, y3, y4⟩
            rw [show (314 - a).toNat = n by omega] at y4
            have hx2 := ih (a + 1) _ y (by omega) (by omega) (sF2_b A a n (a + 1) _ sb) (fun c i h => by rw [y1 c i (by omega) (by omega) (by omega)]; exact hf' c i h) y2 y3 (fun v hv hb => by rw [y1 _ _ (by omega) (by omega) (by omega)]; exact hC' v hv hb) y4 he'
            simp (disch := first | assumption | omega) only [rn, wk, al, wr_e, td_e, tm_e, mset_eq, mset_ne, if_pos, if_neg, Int.reduceAdd, Int.reduceSub, Int.reduceMul, Int.reduceNeg, Int.reduceLT, Int.reduceLE, Int.reduceEq, Int.cast_ofNat_Int, eq_self, and_true, true_and, ite_self, true_or, or_true, false_or, or_false, and_false, false_and, not_true_eq_false, not_false_eq_true, if_true, if_false, e_Guess_findSlips_0, e_Guess_findSlips_42, e_Guess_findSlips_43, e_Guess_findSlips_53, e_Guess_findSlips_95, e_Guess_findSlips_137, e_Guess_findSlips_179, e_Guess_findSlips_185]
            exact hx2
          · have hn : sF2 A a n (a + 1) (sUp st (n1 A a) 1 a (-1)) = sUp st (n1 A a) 1 a (-1) := by
              apply sF2_n
              intro c hcr hcb
              have := (n2_ge hv hak (c := c) ⟨by omega, by omega, bq_p hcb⟩).1
              have := hlw c (by omega) hcb
              omega
            rw [hn] at he'
            have hx2 := ih (a + 1) _ t' (by omega) (by omega) sb hf' hS' h7' hC' hc' he'
            simp (disch := first | assumption | omega) only [rn, wk, al, wr_e, td_e, tm_e, mset_eq, mset_ne, if_pos, if_neg, Int.reduceAdd, Int.reduceSub, Int.reduceMul, Int.reduceNeg, Int.reduceLT, Int.reduceLE, Int.reduceEq, Int.cast_ofNat_Int, eq_self, and_true, true_and, ite_self, true_or, or_true, false_or, or_false, and_false, false_and, not_true_eq_false, not_false_eq_true, if_true, if_false, e_Guess_findSlips_0, e_Guess_findSlips_42, e_Guess_findSlips_43, e_Guess_findSlips_53, e_Guess_findSlips_95, e_Guess_findSlips_137, e_Guess_findSlips_179, e_Guess_findSlips_185, eB', ec', m14', e1]
            exact hx2
        · rw [if_neg cm] at he'
          have hx2 := ih (a + 1) _ t' (by omega) (by omega) sb hf' hS' h7' hC' hc' he'
          simp (disch := first | assumption | omega) only [rn, wk, al, wr_e, td_e, tm_e, mset_eq, mset_ne, if_pos, if_neg, Int.reduceAdd, Int.reduceSub, Int.reduceMul, Int.reduceNeg, Int.reduceLT, Int.reduceLE, Int.reduceEq, Int.cast_ofNat_Int, eq_self, and_true, true_and, ite_self, true_or, or_true, false_or, or_false, and_false, false_and, not_true_eq_false, not_false_eq_true, if_true, if_false, e_Guess_findSlips_0, e_Guess_findSlips_42, e_Guess_findSlips_43, e_Guess_findSlips_53, e_Guess_findSlips_95, e_Guess_findSlips_137, e_Guess_findSlips_179, e_Guess_findSlips_185, eB', ec', m14', e1]
          exact hx2
      by_cases cu : n1 A a < st.1
      · have hk := key (mset (mset (mset t 14 0 (n1 A a)) 14 3 1) 15 0 a) (fun c i y1 y2 => by rw [mset_ne (by omega), mset_ne (by omega), mset_ne (by omega)]) (cR_up cu)
        simp (disch := first | assumption | omega) only [rn, wk, al, wr_e, td_e, tm_e, mset_eq, mset_ne, if_pos, if_neg, Int.reduceAdd, Int.reduceSub, Int.reduceMul, Int.reduceNeg, Int.reduceLT, Int.reduceLE, Int.reduceEq, Int.cast_ofNat_Int, eq_self, and_true, true_and, ite_self, true_or, or_true, false_or, or_false, and_false, false_and, not_true_eq_false, not_false_eq_true, if_true, if_false, e_Guess_findSlips_0, e_Guess_findSlips_42, e_Guess_findSlips_43, e_Guess_findSlips_53, e_Guess_findSlips_95, e_Guess_findSlips_179, e_Guess_findSlips_185, eB, ec, m14, e1]
        exact hk
      · have hk := key t (fun c i y1 y2 => rfl) (by rw [sUp_n (by omega)]; exact hc)
        simp (disch := first | assumption | omega) only [rn, wk, al, wr_e, td_e, tm_e, mset_eq, mset_ne, if_pos, if_neg, Int.reduceAdd, Int.reduceSub, Int.reduceMul, Int.reduceNeg, Int.reduceLT, Int.reduceLE, Int.reduceEq, Int.cast_ofNat_Int, eq_self, and_true, true_and, ite_self, true_or, or_true, false_or, or_false, and_false, false_and, not_true_eq_false, not_false_eq_true, if_true, if_false, e_Guess_findSlips_0, e_Guess_findSlips_42, e_Guess_findSlips_43, e_Guess_findSlips_53, e_Guess_findSlips_95, e_Guess_findSlips_179, e_Guess_findSlips_185, eB, ec, m14, e1]
        exact hk
    · rw [if_neg cb] at he'
      have hx2 := ih (a + 1) st t (by omega) (by omega) hs hf hS h7 hC hc he'
      simp (disch := first | assumption | omega) only [rn, wk, al, wr_e, td_e, tm_e, mset_eq, mset_ne, if_pos, if_neg, Int.reduceAdd, Int.reduceSub, Int.reduceMul, Int.reduceNeg, Int.reduceLT, Int.reduceLE, Int.reduceEq, Int.cast_ofNat_Int, eq_self, and_true, true_and, ite_self, true_or, or_true, false_or, or_false, and_false, false_and, not_true_eq_false, not_false_eq_true, if_true, if_false, e_Guess_findSlips_0, e_Guess_findSlips_42, e_Guess_findSlips_43, e_Guess_findSlips_53, e_Guess_findSlips_95, e_Guess_findSlips_137, e_Guess_findSlips_179, e_Guess_findSlips_185, eB]
      exact hx2
def sAll (A : Mem) (m : Int) : Bst := if 0 < m then sF1 A m 315 0 (n0 A, 0, -1, -1) else (n0 A, 0, -1, -1)
theorem lp_fs0 (d : Nat) (m : Int) (f : Int → Int) (Q : Int → Mem → Prop) : ∀ (n : Nat) (k : Int) (t : Mem), 0 ≤ k → k + n = 364 → (∀ j, 0 ≤ j ∧ j < 364 → t 18 j = f j) → (0 ≤ t 14 0 ∧ t 14 0 ≤ k) → (∀ z, EV (d + 4) o_Guess_findSlips 53 [] [14, 37, m, 364, z, 0] (mset t 14 0 (t 14 0 + sg (fun j => z1 (f j)) k n)) Q) → EV (d + 4) o_Guess_findSlips 17 [] [14, 37, m, k, 0, 0] t Q := by
  intro n
  induction n with
  | zero =>
    intro k t h0 hk h18 hb hQ
    have ek : k = 364 := by omega
    subst ek
    have hq := hQ 0
    have e : t 14 0 + sg (fun j => z1 (f j)) 364 0 = t 14 0 := Int.add_zero _
    have em : mset t 14 0 (t 14 0) = t := by
      funext c i
      by_cases h : c = 14 ∧ i = 0
      · obtain ⟨rfl, rfl⟩ := h; rw [mset_eq rfl rfl]
      · rw [mset_ne (by omega)]
    rw [e, em] at hq
    rw [e_Guess_findSlips_17]
    simp (disch := first | assumption | omega) only [rn, wk, al, wr_e, td_e, tm_e, mset_eq, mset_ne, if_pos, if_neg, Int.reduceAdd, Int.reduceSub, Int.reduceMul, Int.reduceNeg, Int.reduceLT, Int.reduceLE, Int.reduceEq, Int.cast_ofNat_Int, eq_self, and_true, true_and, ite_self, true_or, or_true, false_or, or_false, and_false, false_and, not_true_eq_false, not_false_eq_true, if_true, if_false]
    exact hq
  | succ n ih =>
    intro k t h0 hk h18 hb hQ
    have ek := h18 k (by omega)
    have es : sg (fun j => z1 (f j)) k (n + 1) = z1 (f k) + sg (fun j => z1 (f j)) (k + 1) n := rfl
    have em : ∀ v w, mset (mset t 14 0 v) 14 0 w = mset t 14 0 w := fun v w => by
      funext c i
      by_cases h : c = 14 ∧ i = 0
      · obtain ⟨rfl, rfl⟩ := h; rw [mset_eq rfl rfl, mset_eq rfl rfl]
      · rw [mset_ne (by omega), mset_ne (by omega), mset_ne (by omega)]
    have go : ∀ w, z1 (f k) = w → EV (d + 4) o_Guess_findSlips 17 [] [14, 37, m, k + 1, 0, 0] (mset t 14 0 (t 14 0 + w)) Q := by
      intro w hw
      have := z1_b (f k)
      refine ih (k + 1) (mset t 14 0 (t 14 0 + w)) (by omega) (by omega) (fun j hj => by rw [mset_ne (by omega)]; exact h18 j hj) (by rw [mset_eq rfl rfl]; omega) (fun z => ?_)
      rw [mset_eq rfl rfl, em, Int.add_assoc, ← hw, ← es]
      exact hQ z
    rw [e_Guess_findSlips_17]
    by_cases c : f k = 0
    · have hg := go 0 (by unfold z1; rw [if_pos c])
      simp (disch := first | assumption | omega) only [rn, wk, al, wr_e, td_e, tm_e, mset_eq, mset_ne, if_pos, if_neg, Int.reduceAdd, Int.reduceSub, Int.reduceMul, Int.reduceNeg, Int.reduceLT, Int.reduceLE, Int.reduceEq, Int.cast_ofNat_Int, eq_self, and_true, true_and, ite_self, true_or, or_true, false_or, or_false, and_false, false_and, not_true_eq_false, not_false_eq_true, if_true, if_false, e_Guess_findSlips_0, e_Guess_findSlips_42, e_Guess_findSlips_43, e_Guess_findSlips_53, e_Guess_findSlips_95, e_Guess_findSlips_137, e_Guess_findSlips_179, e_Guess_findSlips_185, ek]
      exact hg
    · have hg := go 1 (by unfold z1; rw [if_neg c])
      simp (disch := first | assumption | omega) only [rn, wk, al, wr_e, td_e, tm_e, mset_eq, mset_ne, if_pos, if_neg, Int.reduceAdd, Int.reduceSub, Int.reduceMul, Int.reduceNeg, Int.reduceLT, Int.reduceLE, Int.reduceEq, Int.cast_ofNat_Int, eq_self, and_true, true_and, ite_self, true_or, or_true, false_or, or_false, and_false, false_and, not_true_eq_false, not_false_eq_true, if_true, if_false, e_Guess_findSlips_0, e_Guess_findSlips_42, e_Guess_findSlips_43, e_Guess_findSlips_53, e_Guess_findSlips_95, e_Guess_findSlips_137, e_Guess_findSlips_179, e_Guess_findSlips_185, ek]
      exact hg
theorem n0_blk (A : Mem) : sg (fun j => z1 (A 10 j)) 0 364 = n0 A := by
  unfold n0 nzz
  rw [sg_comm, show (364 : Nat) = 4 * 91 from rfl, sg_blk (fun j => z1 (A 10 j)) 4 91]
  rfl
theorem q_findSlips (d : Nat) (A s : Mem) (hv : VB A) (hA : ∀ k, 0 ≤ k → k < 20 → win s 37 k = A k) (hr : ∀ j, 0 ≤ j ∧ j < 364 → 0 ≤ A 10 j ∧ A 10 j ≤ 999) (m : Int) (hm : 0 ≤ m ∧ m ≤ 2) : CV (d + 5) 156 [14, 37, m] s fun _ t => Fgs s t ∧ cR (sAll A m) t := by
  have na0' : 0 ≤ n0 A ∧ n0 A ≤ 364 := nzz_b _
  have hsum := sg_bd (f := A 10) (m := 999) 364 0 (fun i a b => hr i (by omega))
  apply c_Guess_findSlips
  simp (disch := first | assumption | omega) only [rn, wk, al, wr_e, td_e, tm_e, mset_eq, mset_ne, if_pos, if_neg, Int.reduceAdd, Int.reduceSub, Int.reduceMul, Int.reduceNeg, Int.reduceLT, Int.reduceLE, Int.reduceEq, Int.cast_ofNat_Int, eq_self, and_true, true_and, ite_self, true_or, or_true, false_or, or_false, and_false, false_and, not_true_eq_false, not_false_eq_true, if_true, if_false, e_Guess_findSlips_0, e_Guess_findSlips_42, e_Guess_findSlips_43, e_Guess_findSlips_53, e_Guess_findSlips_95, e_Guess_findSlips_137, e_Guess_findSlips_179, e_Guess_findSlips_185]
  refine EV_call (CV_mono (q_Glisten d A s hv hA hr) ?_)
  rintro r t ⟨t1, t2, t3, t4, t5, t6, t7⟩
  simp (disch := first | assumption | omega) only [rn, wk, al, wr_e, td_e, tm_e, mset_eq, mset_ne, if_pos, if_neg, Int.reduceAdd, Int.reduceSub, Int.reduceMul, Int.reduceNeg, Int.reduceLT, Int.reduceLE, Int.reduceEq, Int.cast_ofNat_Int, eq_self, and_true, true_and, ite_self, true_or, or_true, false_or, or_false, and_false, false_and, not_true_eq_false, not_false_eq_true, if_true, if_false, e_Guess_findSlips_0, e_Guess_findSlips_42, e_Guess_findSlips_43, e_Guess_findSlips_53, e_Guess_findSlips_95, e_Guess_findSlips_137, e_Guess_findSlips_179, e_Guess_findSlips_185]
  have g18 : ∀ c i, ¬ (c = 14 ∧ (i = 0 ∨ i = 3)) → mset (mset t 14 3 0) 14 0 0 c i = t c i := fun c i h => by rw [mset_ne (by omega), mset_ne (by omega)]
  refine lp_fs0 d m (A 10) _ 364 0 _ (by omega) (by omega) (fun j hj => by rw [g18 _ _ (by omega)]; exact t2 j hj) (by rw [mset_eq rfl rfl]; omega) ?_
  intro z
  rw [mset_eq rfl rfl, n0_blk, Int.zero_add]
  obtain ⟨w, hw⟩ : ∃ w, w = mset (mset (mset t 14 3 0) 14 0 0) 14 0 (n0 A) := ⟨_, rfl⟩
  rw [← hw]
  have w0 : w 14 0 = n0 A := by rw [hw, mset_eq rfl rfl]
  have w3 : w 14 3 = 0 := by rw [hw, mset_ne (by omega), mset_ne (by omega), mset_eq rfl rfl]
  have wf : ∀ c i, ¬ (c = 14 ∧ (i = 0 ∨ i = 3)) → w c i = t c i := fun c i h => by rw [hw, mset_ne (by omega)]; exact g18 c i h
  have hPG : PG A t := fun q x hq hx => t4 q x hq hx
  have hSJ : SJ A w (fun x b => A 10 (4 * b + x)) := by
    refine ⟨PG_congr (fun c i hc => wf _ _ (by omega)) hPG, fun q hq => ?_, fun x b hx hb => by rw [wf _ _ (by omega)]; exact t2 _ (by omega), by rw [wf _ _ (by omega), t3]; omega⟩
    rw [wf _ _ (by omega)]
    by_cases c : vQ A q
    · rw [bq_v c]; exact (t5 q hq).1 c
    · rw [bq_n c]; exact (t5 q hq).2 c
  simp (disch := first | assumption | omega) only [rn, wk, al, wr_e, td_e, tm_e, mset_eq, mset_ne, if_pos, if_neg, Int.reduceAdd, Int.reduceSub, Int.reduceMul, Int.reduceNeg, Int.reduceLT, Int.reduceLE, Int.reduceEq, Int.cast_ofNat_Int, eq_self, and_true, true_and, ite_self, true_or, or_true, false_or, or_false, and_false, false_and, not_true_eq_false, not_false_eq_true, if_true, if_false, e_Guess_findSlips_0, e_Guess_findSlips_42, e_Guess_findSlips_43, e_Guess_findSlips_53, e_Guess_findSlips_95, e_Guess_findSlips_137, e_Guess_findSlips_179, e_Guess_findSlips_185, w0]
  refine EV_call (CV_mono (q_weighEach (d + 1) A w hv hSJ) ?_)
  rintro low y ⟨y1, y2, y3, y4⟩
  have ySJ : SJ A y (fun x b => A 10 (4 * b + x)) := by
    obtain ⟨j1, j2, j3, j4⟩ := hSJ
    exact ⟨PG_congr (fun c i hc => y1 _ _ (by omega)) j1, fun q hq => by rw [y1 _ _ (by omega)]; exact j2 q hq, fun x b hx hb => by rw [y1 _ _ (by omega)]; exact j3 x b hx hb, by rw [y1 _ _ (by omega)]; exact j4⟩
  have yf : Fgs s y := fun c i h => by rw [y1 c i (by omega), wf c i (by omega), t1 c i (by omega) (by omega)]
  have yc : cR (n0 A, 0, -1, -1) y := ⟨by rw [y1 _ _ (by omega)]; exact w0, by rw [y1 _ _ (by omega)]; exact w3, fun h => by have h' : (1 : Int) ≤ 0 := h; omega, fun h => by have h' : (2 : Int) ≤ 0 := h; omega⟩
  by_cases c : 0 < m
  · have hx := lp_fsl d A s hv hr m low ⟨c, hm.2⟩ y3 y4 (fun _ t => Fgs s t ∧ cR (sAll A m) t) (sAll A m) (fun t a b => ⟨a, b⟩) 315 0 (n0 A, 0, -1, -1) y (by omega) (by omega) (by show 0 ≤ n0 A ∧ n0 A ≤ 400; omega) yf ySJ (by rw [y1 _ _ (by omega), wf _ _ (by omega)]; exact t3) y2 yc (by unfold sAll; rw [if_pos c])
    simp (disch := first | assumption | omega) only [rn, wk, al, wr_e, td_e, tm_e, mset_eq, mset_ne, if_pos, if_neg, Int.reduceAdd, Int.reduceSub, Int.reduceMul, Int.reduceNeg, Int.reduceLT, Int.reduceLE, Int.reduceEq, Int.cast_ofNat_Int, eq_self, and_true, true_and, ite_self, true_or, or_true, false_or, or_false, and_false, false_and, not_true_eq_false, not_false_eq_true, if_true, if_false, e_Guess_findSlips_0, e_Guess_findSlips_42, e_Guess_findSlips_43, e_Guess_findSlips_53, e_Guess_findSlips_95, e_Guess_findSlips_137, e_Guess_findSlips_179, e_Guess_findSlips_185]
    exact hx
  · have hp : Fgs s y ∧ cR (sAll A m) y := ⟨yf, by unfold sAll; rw [if_neg c]; exact yc⟩
    simp (disch := first | assumption | omega) only [rn, wk, al, wr_e, td_e, tm_e, mset_eq, mset_ne, if_pos, if_neg, Int.reduceAdd, Int.reduceSub, Int.reduceMul, Int.reduceNeg, Int.reduceLT, Int.reduceLE, Int.reduceEq, Int.cast_ofNat_Int, eq_self, and_true, true_and, ite_self, true_or, or_true, false_or, or_false, and_false, false_and, not_true_eq_false, not_false_eq_true, if_true, if_false, e_Guess_findSlips_0, e_Guess_findSlips_42, e_Guess_findSlips_43, e_Guess_findSlips_53, e_Guess_findSlips_95, e_Guess_findSlips_137, e_Guess_findSlips_179, e_Guess_findSlips_185]
    rw [e_Guess_findSlips_67]
    simp (disch := first | assumption | omega) only [rn, wk, al, wr_e, td_e, tm_e, mset_eq, mset_ne, if_pos, if_neg, Int.reduceAdd, Int.reduceSub, Int.reduceMul, Int.reduceNeg, Int.reduceLT, Int.reduceLE, Int.reduceEq, Int.cast_ofNat_Int, eq_self, and_true, true_and, ite_self, true_or, or_true, false_or, or_false, and_false, false_and, not_true_eq_false, not_false_eq_true, if_true, if_false, e_Guess_findSlips_0, e_Guess_findSlips_42, e_Guess_findSlips_43, e_Guess_findSlips_53, e_Guess_findSlips_95, e_Guess_findSlips_137, e_Guess_findSlips_179, e_Guess_findSlips_185]
    exact hp
