/-! ===== H2: take, changeBy ===== -/
def pX (A : Mem) (v x b : Int) : Int := if x < A 0 3 then pt A v x b else 0
/-- what is listened to, as the class holds it -/
def PG (A u : Mem) : Prop := ∀ q x, 0 ≤ q ∧ q < 15 → 0 ≤ x ∧ x < 4 → gd A u q x
def Ft (s u : Mem) : Prop := ∀ c i, c ≠ 18 → ¬ (c = 14 ∧ i = 7) → u c i = s c i
theorem opn_f (A : Mem) (q x : Int) : (opn A q x = -1 ∧ ¬ 0 < aP A q (A 5 x) 0 ∧ ¬ 0 < aP A q (A 5 x) 1 ∧ ¬ 0 < aP A q (A 5 x) 2) ∨ ((0 ≤ opn A q x ∧ opn A q x < 3) ∧ ∀ i, 0 ≤ i ∧ i < opn A q x → ¬ 0 < aP A q (A 5 x) i) := by
  unfold opn
  by_cases c0 : 0 < aP A q (A 5 x) 0
  · rw [if_pos c0]; exact Or.inr ⟨by omega, fun i hi => by omega⟩
  · rw [if_neg c0]
    by_cases c1 : 0 < aP A q (A 5 x) 1
    · rw [if_pos c1]
      refine Or.inr ⟨by omega, fun i hi => ?_⟩
      have : i = 0 := by omega
      rw [this]; exact c0
    · rw [if_neg c1]
      by_cases c2 : 0 < aP A q (A 5 x) 2
      · rw [if_pos c2]
        refine Or.inr ⟨by omega, fun i hi => ?_⟩
        obtain rfl | rfl : i = 0 ∨ i = 1 := by omega
        · exact c0
        · exact c1
      · rw [if_neg c2]; exact Or.inl ⟨rfl, c0, c1, c2⟩
theorem lp_tk2 (d : Nat) (A u : Mem) (hv : VB A) (q x bt tm : Int) (hq : vQ A q) (hx : 0 ≤ x ∧ x < A 0 3) (hbt : 0 ≤ bt ∧ bt ≤ 20) (htm : tm = 1 ∨ tm = -1) (hg : gl1 A u q x) (hop : 0 ≤ opn A q x ∧ opn A q x < 3) (hb : 0 ≤ bP A q (A 5 x) ∧ bP A q (A 5 x) ≤ 54) (hl : ∀ j, 0 ≤ j ∧ j < 364 → -900000 ≤ u 18 j ∧ u 18 j ≤ 900000) (hlt : -900000 ≤ u 14 7 ∧ u 14 7 ≤ 900000) (Q : Int → Mem → Prop) (hQ : ∀ t z, Ft u t → (∀ x' b', 0 ≤ x' ∧ x' < 4 → 0 ≤ b' ∧ b' < 91 → t 18 (4 * b' + x') = u 18 (4 * b' + x') - (if x' = x ∧ bt + bP A q (A 5 x) + opn A q x ≤ b' ∧ b' < bt + bP A q (A 5 x) + 3 then tm * aP A q (A 5 x) (b' - (bt + bP A q (A 5 x))) else 0)) → t 14 7 = u 14 7 - tm * sg (aP A q (A 5 x)) (opn A q x) (3 - opn A q x).toNat → EV (d + 1) o_Guess_take 97 [] [14, q, bt, tm, x, 4 * q + x, 3, z] t Q) : ∀ (n : Nat) (i : Int) (t : Mem) (z : Int), opn A q x ≤ i → i + n = 3 → Ft u t → (∀ x' b', 0 ≤ x' ∧ x' < 4 → 0 ≤ b' ∧ b' < 91 → t 18 (4 * b' + x') = u 18 (4 * b' + x') - (if x' = x ∧ bt + bP A q (A 5 x) + opn A q x ≤ b' ∧ b' < bt + bP A q (A 5 x) + i then tm * aP A q (A 5 x) (b' - (bt + bP A q (A 5 x))) else 0)) → t 14 7 = u 14 7 - tm * sg (aP A q (A 5 x)) (opn A q x) (i - opn A q x).toNat → EV (d + 1) o_Guess_take 26 [] [14, q, bt, tm, x, 4 * q + x, i, z] t Q := by
  have h1 := hv.1
  unfold VC at h1
  have hp := hv.2.1 x hx
  have hq0 := hq.1
  have hq1 := hq.2.1
  obtain ⟨g1, g2⟩ := hg
  obtain ⟨g3, g4⟩ := g2 (by omega)
  obtain ⟨o, ho⟩ : ∃ o, o = opn A q x := ⟨_, rfl⟩
  obtain ⟨B, hB⟩ : ∃ B, B = bt + bP A q (A 5 x) := ⟨_, rfl⟩
  have hgb : ∀ i, 0 ≤ i ∧ i < 3 → 0 ≤ aP A q (A 5 x) i ∧ aP A q (A 5 x) i ≤ 99 := fun i hi => aP_ok hv hq hp hi
  rw [← ho, ← hB] at hQ ⊢
  rw [← ho] at hop
  intro n
  induction n with
  | zero =>
    intro i t z hi hn hf h18 h7
    have ei : i = 3 := by omega
    subst ei
    have hq := hQ t z hf h18 h7
    rw [e_Guess_take_26]
    simp (disch := first | assumption | omega) only [rn, wk, al, wr_e, td_e, tm_e, mset_eq, mset_ne, if_pos, if_neg, Int.reduceAdd, Int.reduceSub, Int.reduceMul, Int.reduceNeg, Int.reduceLT, Int.reduceLE, Int.reduceEq, Int.cast_ofNat_Int, eq_self, and_true, true_and, ite_self, true_or, or_true, false_or, or_false, and_false, false_and, not_true_eq_false, not_false_eq_true, if_true, if_false]
    exact hq
  | succ n ih =>
    intro i t z hi hn hf h18 h7
    have gi := hgb i (by omega)
    have a19 : t 19 ((4 * q + x) * 3 + i) = aP A q (A 5 x) i := by rw [show (4 * q + x) * 3 + i = 12 * q + 3 * x + i by omega, hf _ _ (by omega) (by omega)]; exact g4 i (by omega)
    have a20 : t 20 (4 * q + x) = bP A q (A 5 x) := by rw [hf _ _ (by omega) (by omega)]; exact g3
    have c18 := h18 x (B + i) (by omega) (by omega)
    rw [if_neg (by omega), Int.sub_zero] at c18
    have l1 := hl (4 * (B + i) + x) (by omega)
    have s1 := sg_bd (f := aP A q (A 5 x)) (m := 99) (i - o).toNat o (fun j a b => hgb j (by omega))
    have emul : -99 ≤ tm * aP A q (A 5 x) i ∧ tm * aP A q (A 5 x) i ≤ 99 := by rcases htm with rfl | rfl <;> omega
    have emul2 : -300 ≤ tm * sg (aP A q (A 5 x)) o (i - o).toNat ∧ tm * sg (aP A q (A 5 x)) o (i - o).toNat ≤ 300 := by rcases htm with rfl | rfl <;> omega
    have eB : bt + bP A q (A 5 x) + i = B + i := by omega
    have esg : sg (aP A q (A 5 x)) o (i + 1 - o).toNat = sg (aP A q (A 5 x)) o (i - o).toNat + aP A q (A 5 x) i := by
      rw [show (i + 1 - o).toNat = (i - o).toNat + 1 by omega, sg_last, show o + (((i - o).toNat : Nat) : Int) = i by omega]
    have hx2 := ih (i + 1) (mset (mset t 18 (4 * (B + i) + x) (u 18 (4 * (B + i) + x) - tm * aP A q (A 5 x) i)) 14 7 (t 14 7 - tm * aP A q (A 5 x) i)) (tm * aP A q (A 5 x) i) (by omega) (by omega) (fun c j y1 y2 => by rw [mset_ne (by omega), mset_ne (by omega)]; exact hf c j y1 y2) (fun x' b' hx' hb' => by
      rw [mset_ne (by omega)]
      by_cases e : x' = x ∧ b' = B + i
      · obtain ⟨rfl, rfl⟩ := e
        rw [mset_eq rfl rfl, if_pos (by omega), show B + i - B = i by omega]
      · rw [mset_ne (by omega), h18 x' b' hx' hb']
        by_cases c : x' = x ∧ B + o ≤ b' ∧ b' < B + i
        · rw [if_pos c, if_pos (by omega)]
        · rw [if_neg c, if_neg (by omega)]) (by rw [mset_eq rfl rfl, esg, Int.mul_add, h7]; omega)
    rw [e_Guess_take_26]
    simp (disch := first | assumption | omega) only [rn, wk, al, wr_e, td_e, tm_e, mset_eq, mset_ne, if_pos, if_neg, Int.reduceAdd, Int.reduceSub, Int.reduceMul, Int.reduceNeg, Int.reduceLT, Int.reduceLE, Int.reduceEq, Int.cast_ofNat_Int, eq_self, and_true, true_and, ite_self, true_or, or_true, false_or, or_false, and_false, false_and, not_true_eq_false, not_false_eq_true, if_true, if_false, a19, a20, eB, q_cellOf, c18]
    exact hx2
theorem lp_tk1 (d : Nat) (A u : Mem) (hv : VB A) (hP : PG A u) (q bt tm : Int) (hq : vQ A q) (hbt : 0 ≤ bt ∧ bt ≤ 20) (htm : tm = 1 ∨ tm = -1) (hl : ∀ j, 0 ≤ j ∧ j < 364 → -800000 ≤ u 18 j ∧ u 18 j ≤ 800000) (hlt : -800000 ≤ u 14 7 ∧ u 14 7 ≤ 800000) (Q : Int → Mem → Prop) (hQ : ∀ t, Ft u t → (∀ x b, 0 ≤ x ∧ x < 4 → 0 ≤ b ∧ b < 91 → t 18 (4 * b + x) = u 18 (4 * b + x) - tm * pX A (21 * q + bt) x b) → t 14 7 = u 14 7 - tm * sg (fun x => aS A q (A 5 x)) 0 (A 0 3).toNat → Q 0 t) : ∀ (n : Nat) (x : Nat) (t : Mem) (z1 z2 z3 : Int), x + n = 4 → Ft u t → (∀ x' b, 0 ≤ x' ∧ x' < 4 → 0 ≤ b ∧ b < 91 → t 18 (4 * b + x') = u 18 (4 * b + x') - (if x' < (x : Int) then tm * pX A (21 * q + bt) x' b else 0)) → t 14 7 = u 14 7 - tm * sg (fun x => aS A q (A 5 x)) 0 (min x (A 0 3).toNat) → EV (d + 1) o_Guess_take 3 [] [14, q, bt, tm, x, z1, z2, z3] t Q := by
  have h1 := hv.1
  unfold VC at h1
  have hq0 := hq.1
  have hq1 := hq.2.1
  have hvK : vK A (21 * q + bt) := ⟨by omega, by omega, by rw [show (21 * q + bt) / 21 = q by omega]; exact hq⟩
  have e21 : (21 * q + bt) / 21 = q := by omega
  have e63 : (21 * q + bt) / 63 = q / 3 := by omega
  have em : (21 * q + bt) % 21 = bt := by omega
  intro n
  induction n with
  | zero =>
    intro x t z1 z2 z3 hx hf h18 h7
    have ex : x = 4 := by omega
    subst ex
    rw [show min 4 (A 0 3).toNat = (A 0 3).toNat by omega] at h7
    have hq := hQ t hf (fun x' b a c => by rw [h18 x' b a c, if_pos (by omega)]) h7
    rw [e_Guess_take_3]
    simp (disch := first | assumption | omega) only [rn, wk, al, wr_e, td_e, tm_e, mset_eq, mset_ne, if_pos, if_neg, Int.reduceAdd, Int.reduceSub, Int.reduceMul, Int.reduceNeg, Int.reduceLT, Int.reduceLE, Int.reduceEq, Int.cast_ofNat_Int, eq_self, and_true, true_and, ite_self, true_or, or_true, false_or, or_false, and_false, false_and, not_true_eq_false, not_false_eq_true, if_true, if_false, e_Guess_take_0, e_Guess_take_97, e_Guess_take_103]
    exact hq
  | succ n ih =>
    intro x t z1 z2 z3 hx hf h18 h7
    have en : ((x + 1 : Nat) : Int) = (x : Int) + 1 := by omega
    have e4 : q * 4 + (x : Int) = 4 * q + x := by omega
    have hgd := hP q x (by omega) (by omega)
    have g21 : t 21 (4 * q + x) = u 21 (4 * q + x) := hf _ _ (by omega) (by omega)
    have nothing : (∀ b, 0 ≤ b ∧ b < 91 → pX A (21 * q + bt) x b = 0) → sg (fun x => aS A q (A 5 x)) 0 (min (x + 1) (A 0 3).toNat) = sg (fun x => aS A q (A 5 x)) 0 (min x (A 0 3).toNat) → u 21 (4 * q + x) = -1 → EV (d + 1) o_Guess_take 3 [] [14, q, bt, tm, x, z1, z2, z3] t Q := by
      intro k1 k2 k3
      have hx2 := ih (x + 1) t (4 * q + x) (-1) z3 (by omega) hf (fun x' b a c => by
        rw [h18 x' b a c]
        by_cases e : x' = x
        · rw [e, if_neg (by omega), if_pos (by omega), k1 b c, Int.mul_zero]
        · by_cases c2 : x' < (x : Int)
          · rw [if_pos c2, if_pos (by omega)]
          · rw [if_neg c2, if_neg (by omega)]) (by rw [k2]; exact h7)
      rw [en] at hx2
      rw [e_Guess_take_3]
      simp (disch := first | assumption | omega) only [rn, wk, al, wr_e, td_e, tm_e, mset_eq, mset_ne, if_pos, if_neg, Int.reduceAdd, Int.reduceSub, Int.reduceMul, Int.reduceNeg, Int.reduceLT, Int.reduceLE, Int.reduceEq, Int.cast_ofNat_Int, eq_self, and_true, true_and, ite_self, true_or, or_true, false_or, or_false, and_false, false_and, not_true_eq_false, not_false_eq_true, if_true, if_false, e4, g21, k3]
      rw [e_Guess_take_26]
      simp (disch := first | assumption | omega) only [rn, wk, al, wr_e, td_e, tm_e, mset_eq, mset_ne, if_pos, if_neg, Int.reduceAdd, Int.reduceSub, Int.reduceMul, Int.reduceNeg, Int.reduceLT, Int.reduceLE, Int.reduceEq, Int.cast_ofNat_Int, eq_self, and_true, true_and, ite_self, true_or, or_true, false_or, or_false, and_false, false_and, not_true_eq_false, not_false_eq_true, if_true, if_false, e_Guess_take_0, e_Guess_take_97, e_Guess_take_103]
      exact hx2
    by_cases cx : (x : Int) < A 0 3
    · have hg := hgd.1 ⟨hq, cx⟩
      have hp := hv.2.1 (x : Int) ⟨by omega, cx⟩
      have hd := (dP_ok hv (vQ_c hq) hp).2
      have es : sg (fun x => aS A q (A 5 x)) 0 (min (x + 1) (A 0 3).toNat) = sg (fun x => aS A q (A 5 x)) 0 (min x (A 0 3).toNat) + aS A q (A 5 x) := by
        rw [show min (x + 1) (A 0 3).toNat = x + 1 by omega, show min x (A 0 3).toNat = x by omega, sg_last, Int.zero_add]
      have a0 := aP_ok hv hq hp (i := 0) (by omega)
      have a1 := aP_ok hv hq hp (i := 1) (by omega)
      have a2 := aP_ok hv hq hp (i := 2) (by omega)
      have hpt : ∀ b, 0 ≤ b ∧ b < 91 → pX A (21 * q + bt) x b = if bt + bP A q (A 5 x) ≤ b ∧ b < bt + bP A q (A 5 x) + 3 then aP A q (A 5 x) (b - (bt + bP A q (A 5 x))) else 0 := by
        intro b hb
        unfold pX pt
        rw [if_pos cx, e21, em]
        by_cases c : bt + bP A q (A 5 x) ≤ b ∧ b < bt + bP A q (A 5 x) + 3
        · rw [if_pos c, if_pos (by omega), show b - bt - bP A q (A 5 x) = b - (bt + bP A q (A 5 x)) by omega]
        · rw [if_neg c, if_neg (by omega)]
      rcases opn_f A q x with ⟨o1, o2, o3, o4⟩ | ⟨o1, o2⟩
      · have ez : ∀ i, 0 ≤ i ∧ i < 3 → aP A q (A 5 x) i = 0 := by
          intro i hi
          obtain rfl | rfl | rfl : i = 0 ∨ i = 1 ∨ i = 2 := by omega
          · omega
          · omega
          · omega
        refine nothing (fun b hb => ?_) ?_ (by rw [hg.1, o1])
        · rw [hpt b hb]
          split
          · rename_i c; exact ez _ (by omega)
          · rfl
        · rw [es]; unfold aS; rw [ez 0 (by omega), ez 1 (by omega), ez 2 (by omega)]; omega
      · have hbP : 0 ≤ bP A q (A 5 x) ∧ bP A q (A 5 x) ≤ 54 := by
          rcases hd with h | ⟨a, b, h⟩
          · exfalso
            have ez : ∀ i, aP A q (A 5 x) i = 0 := fun i => by unfold aP; rw [if_neg (by omega)]
            have : opn A q x = -1 := by unfold opn; rw [ez, ez, ez]; rfl
            omega
          · unfold bP; omega
        have sbd := sg_bd (f := fun x => aS A q (A 5 x)) (m := 297) (min x (A 0 3).toNat) 0 (fun i a b => aS_ok hv hq (hv.2.1 i (by omega)))
        have hb7 : -850000 ≤ t 14 7 ∧ t 14 7 ≤ 850000 := by rcases htm with rfl | rfl <;> omega
        have hgt : gl1 A t q x := by
          obtain ⟨y1, y2⟩ := hg
          refine ⟨by rw [g21]; exact y1, fun h => ?_⟩
          obtain ⟨y3, y4⟩ := y2 h
          exact ⟨by rw [hf _ _ (by omega) (by omega)]; exact y3, fun i hi => by rw [hf _ _ (by omega) (by omega)]; exact y4 i hi⟩
        have hsum : sg (aP A q (A 5 x)) (opn A q x) (3 - opn A q x).toNat = aS A q (A 5 x) := by
          unfold aS
          have o2' : ∀ i, 0 ≤ i ∧ i < opn A q x → aP A q (A 5 x) i = 0 := fun i hi => by have := o2 i hi; have := aP_ok hv hq hp (i := i) (by omega); omega
          generalize opn A q x = o at *
          obtain rfl | rfl | rfl : o = 0 ∨ o = 1 ∨ o = 2 := by omega
          · show aP A q (A 5 x) 0 + (aP A q (A 5 x) (0 + 1) + (aP A q (A 5 x) (0 + 1 + 1) + 0)) = _
            rw [show (0 : Int) + 1 = 1 from rfl, show (1 : Int) + 1 = 2 from rfl]; omega
          · have := o2' 0 (by omega)
            show aP A q (A 5 x) 1 + (aP A q (A 5 x) (1 + 1) + 0) = _
            rw [show (1 : Int) + 1 = 2 from rfl]; omega
          · have := o2' 0 (by omega)
            have := o2' 1 (by omega)
            show aP A q (A 5 x) 2 + 0 = _
            omega
        rw [e_Guess_take_3]
        simp (disch := first | assumption | omega) only [rn, wk, al, wr_e, td_e, tm_e, mset_eq, mset_ne, if_pos, if_neg, Int.reduceAdd, Int.reduceSub, Int.reduceMul, Int.reduceNeg, Int.reduceLT, Int.reduceLE, Int.reduceEq, Int.cast_ofNat_Int, eq_self, and_true, true_and, ite_self, true_or, or_true, false_or, or_false, and_false, false_and, not_true_eq_false, not_false_eq_true, if_true, if_false, e4, g21, hg.1]
        refine lp_tk2 d A t hv q x bt tm hq ⟨by omega, cx⟩ hbt htm hgt o1 hbP (fun j hj => ?_) (by omega) Q ?_ (3 - opn A q x).toNat (opn A q x) t _ (by omega) (by omega) (fun _ _ _ _ => rfl) (fun x' b' _ _ => by rw [if_neg (by omega)]; omega) (by rw [show (opn A q x - opn A q x).toNat = 0 by omega]; show t 14 7 = t 14 7 - tm * 0; omega)
        · have qq := h18 (j % 4) (j / 4) (by omega) (by omega)
          rw [show 4 * (j / 4) + j % 4 = j by omega] at qq
          have := hl j hj
          rw [qq]
          by_cases c2 : j % 4 < (x : Int)
          · have pb : 0 ≤ pX A (21 * q + bt) (j % 4) (j / 4) ∧ pX A (21 * q + bt) (j % 4) (j / 4) ≤ 99 := by
              unfold pX; rw [if_pos (by omega)]; exact pt_ok hv hvK (by omega)
            rw [if_pos c2]
            rcases htm with rfl | rfl <;> omega
          · rw [if_neg c2]; omega
        · intro y z y1 y2 y3
          rw [hsum] at y3
          have hx2 := ih (x + 1) y (4 * q + x) 3 z (by omega) (fun c i a b => by rw [y1 c i a b, hf c i a b]) (fun x' b a c => by
            rw [y2 x' b a c, h18 x' b a c]
            by_cases e : x' = x
            · rw [e, if_neg (show ¬ (x : Int) < x by omega), if_pos (show (x : Int) < ((x + 1 : Nat) : Int) by omega), hpt b c, Int.sub_zero]
              by_cases c2 : bt + bP A q (A 5 x) ≤ b ∧ b < bt + bP A q (A 5 x) + 3
              · rw [if_pos c2]
                by_cases c3 : bt + bP A q (A 5 x) + opn A q x ≤ b
                · rw [if_pos ⟨rfl, c3, c2.2⟩]
                · rw [if_neg (fun h => c3 h.2.1)]
                  have q1 := o2 (b - (bt + bP A q (A 5 x))) (by omega)
                  have q2 := aP_ok hv hq hp (i := b - (bt + bP A q (A 5 x))) (by omega)
                  rw [show aP A q (A 5 x) (b - (bt + bP A q (A 5 x))) = 0 by omega]; omega
              · rw [if_neg c2, if_neg (fun h => c2 ⟨by omega, h.2.2⟩)]; omega
            · rw [if_neg (show ¬ (x' = (x : Int) ∧ bt + bP A q (A 5 x) + opn A q x ≤ b ∧ b < bt + bP A q (A 5 x) + 3) from fun h => e h.1)]
              by_cases c2 : x' < (x : Int)
              · rw [if_pos c2, if_pos (show x' < ((x + 1 : Nat) : Int) by omega)]; omega
              · rw [if_neg c2, if_neg (show ¬ x' < ((x + 1 : Nat) : Int) by omega)]; omega) (by rw [y3, h7, es, Int.mul_add]; omega)
          rw [en] at hx2
          simp (disch := first | assumption | omega) only [rn, wk, al, wr_e, td_e, tm_e, mset_eq, mset_ne, if_pos, if_neg, Int.reduceAdd, Int.reduceSub, Int.reduceMul, Int.reduceNeg, Int.reduceLT, Int.reduceLE, Int.reduceEq, Int.cast_ofNat_Int, eq_self, and_true, true_and, ite_self, true_or, or_true, false_or, or_false, and_false, false_and, not_true_eq_false, not_false_eq_true, if_true, if_false, e_Guess_take_0, e_Guess_take_97, e_Guess_take_103]
          exact hx2
    · have hn := hgd.2 (fun h => cx h.2)
      refine nothing (fun b hb => ?_) ?_ hn
      · unfold pX; rw [if_neg cx]
      · rw [show min (x + 1) (A 0 3).toNat = min x (A 0 3).toNat by omega]
theorem q_take (d : Nat) (A u : Mem) (hv : VB A) (hP : PG A u) (q bt tm : Int) (hq : vQ A q) (hbt : 0 ≤ bt ∧ bt ≤ 20) (htm : tm = 1 ∨ tm = -1) (hl : ∀ j, 0 ≤ j ∧ j < 364 → -800000 ≤ u 18 j ∧ u 18 j ≤ 800000) (hlt : -800000 ≤ u 14 7 ∧ u 14 7 ≤ 800000) : CV (d + 2) 151 [14, q, bt, tm] u fun _ t => Ft u t ∧ (∀ x b, 0 ≤ x ∧ x < 4 → 0 ≤ b ∧ b < 91 → t 18 (4 * b + x) = u 18 (4 * b + x) - tm * pX A (21 * q + bt) x b) ∧ t 14 7 = u 14 7 - tm * sg (fun x => aS A q (A 5 x)) 0 (A 0 3).toNat := by
  apply c_Guess_take
  simp (disch := first | assumption | omega) only [rn, wk, al, wr_e, td_e, tm_e, mset_eq, mset_ne, if_pos, if_neg, Int.reduceAdd, Int.reduceSub, Int.reduceMul, Int.reduceNeg, Int.reduceLT, Int.reduceLE, Int.reduceEq, Int.cast_ofNat_Int, eq_self, and_true, true_and, ite_self, true_or, or_true, false_or, or_false, and_false, false_and, not_true_eq_false, not_false_eq_true, if_true, if_false, e_Guess_take_0, e_Guess_take_97, e_Guess_take_103]
  refine lp_tk1 d A u hv hP q bt tm hq hbt htm hl hlt _ (fun t a b c => ⟨a, b, c⟩) 4 0 u _ _ _ (by omega) (fun _ _ _ _ => rfl) (fun x' b a c => by rw [if_neg (by omega)]; omega) ?_
  rw [show min 0 (A 0 3).toNat = 0 by omega]
  show u 14 7 = u 14 7 - tm * 0
  omega
