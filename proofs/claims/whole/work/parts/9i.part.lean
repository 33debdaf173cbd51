/-! ===== H2: which cries are alike ===== -/
/-- what is heard of the kind q at the place p, b beats behind its start -/
def hB (A : Mem) (q p b : Int) : Int := if 0 ≤ b - bP A q p ∧ b - bP A q p < 3 then aP A q p (b - bP A q p) else 0
def sh (A : Mem) (q p : Int) : Int := if 0 < aP A q p 0 then 10000 * aP A q p 0 + 100 * aP A q p 1 + aP A q p 2 else if 0 < aP A q p 1 then 10000 * aP A q p 1 + 100 * aP A q p 2 else 10000 * aP A q p 2
def bn (A : Mem) (q p : Int) : Int := if 0 < aP A q p 0 then bP A q p else if 0 < aP A q p 1 then bP A q p + 1 else bP A q p + 2
def AL (A : Mem) (q q' p L : Int) : Prop := ∀ b, -20 ≤ b → b < 91 → hB A q p b = hB A q' p (b - L)
theorem hB_f {A : Mem} (hv : VB A) {q p : Int} (hq : vQ A q) (hp : 0 ≤ p ∧ p < A 0 1) : (∀ b, 0 ≤ hB A q p b ∧ hB A q p b ≤ 99) ∧ (sh A q p = 0 → ∀ b, hB A q p b = 0) ∧ (sh A q p ≠ 0 → sh A q p = 10000 * hB A q p (bn A q p) + 100 * hB A q p (bn A q p + 1) + hB A q p (bn A q p + 2) ∧ 0 < hB A q p (bn A q p) ∧ (∀ b, b < bn A q p → hB A q p b = 0) ∧ (∀ b, bn A q p + 3 ≤ b → hB A q p b = 0) ∧ 0 ≤ bn A q p ∧ bn A q p ≤ 56) := by
  have a0 := aP_ok hv hq hp (i := 0) (by omega)
  have a1 := aP_ok hv hq hp (i := 1) (by omega)
  have a2 := aP_ok hv hq hp (i := 2) (by omega)
  have hd := (dP_ok hv (vQ_c hq) hp).2
  have hval : ∀ b, (b - bP A q p = 0 → hB A q p b = aP A q p 0) ∧ (b - bP A q p = 1 → hB A q p b = aP A q p 1) ∧ (b - bP A q p = 2 → hB A q p b = aP A q p 2) ∧ (¬ (0 ≤ b - bP A q p ∧ b - bP A q p < 3) → hB A q p b = 0) := by
    intro b
    unfold hB
    refine ⟨fun h => ?_, fun h => ?_, fun h => ?_, fun h => ?_⟩
    · rw [if_pos (by omega), h]
    · rw [if_pos (by omega), h]
    · rw [if_pos (by omega), h]
    · rw [if_neg h]
  have hall : ∀ b, hB A q p b = aP A q p 0 ∨ hB A q p b = aP A q p 1 ∨ hB A q p b = aP A q p 2 ∨ hB A q p b = 0 := by
    intro b
    obtain ⟨v0, v1, v2, v3⟩ := hval b
    by_cases c : 0 ≤ b - bP A q p ∧ b - bP A q p < 3
    · obtain h | h | h : b - bP A q p = 0 ∨ b - bP A q p = 1 ∨ b - bP A q p = 2 := by omega
      · exact Or.inl (v0 h)
      · exact Or.inr (Or.inl (v1 h))
      · exact Or.inr (Or.inr (Or.inl (v2 h)))
    · exact Or.inr (Or.inr (Or.inr (v3 c)))
  refine ⟨?_, ?_, ?_⟩
  · intro b
    have := hall b
    omega
  · intro hs b
    have := hall b
    unfold sh at hs
    split at hs
    · omega
    · split at hs <;> omega
  · intro hs
    have hreach : 0 ≤ bP A q p ∧ bP A q p ≤ 54 := by
      rcases hd with h | ⟨x, y, h⟩
      · exfalso; apply hs
        have e : ∀ i, aP A q p i = 0 := fun i => by unfold aP; rw [if_neg (by omega)]
        unfold sh; rw [e, e, e]; rfl
      · unfold bP; omega
    by_cases c0 : 0 < aP A q p 0
    · have eb : bn A q p = bP A q p := by unfold bn; rw [if_pos c0]
      have es : sh A q p = 10000 * aP A q p 0 + 100 * aP A q p 1 + aP A q p 2 := by unfold sh; rw [if_pos c0]
      rw [es, eb]
      have v0 := (hval (bP A q p)).1 (by omega)
      have v1 := (hval (bP A q p + 1)).2.1 (by omega)
      have v2 := (hval (bP A q p + 2)).2.2.1 (by omega)
      refine ⟨by omega, by omega, fun b hb => (hval b).2.2.2 (by omega), fun b hb => (hval b).2.2.2 (by omega), by omega, by omega⟩
    · by_cases c1 : 0 < aP A q p 1
      · have eb : bn A q p = bP A q p + 1 := by unfold bn; rw [if_neg c0, if_pos c1]
        have es : sh A q p = 10000 * aP A q p 1 + 100 * aP A q p 2 := by unfold sh; rw [if_neg c0, if_pos c1]
        rw [es, eb]
        have v0 := (hval (bP A q p + 1)).2.1 (by omega)
        have v1 := (hval (bP A q p + 1 + 1)).2.2.1 (by omega)
        have v2 := (hval (bP A q p + 1 + 2)).2.2.2 (by omega)
        refine ⟨by omega, by omega, fun b hb => ?_, fun b hb => (hval b).2.2.2 (by omega), by omega, by omega⟩
        by_cases e : b = bP A q p
        · have := (hval b).1 (by omega); omega
        · exact (hval b).2.2.2 (by omega)
      · have eb : bn A q p = bP A q p + 2 := by unfold bn; rw [if_neg c0, if_neg c1]
        have es : sh A q p = 10000 * aP A q p 2 := by unfold sh; rw [if_neg c0, if_neg c1]
        rw [es] at hs ⊢
        rw [eb]
        have v0 := (hval (bP A q p + 2)).2.2.1 (by omega)
        have v1 := (hval (bP A q p + 2 + 1)).2.2.2 (by omega)
        have v2 := (hval (bP A q p + 2 + 2)).2.2.2 (by omega)
        refine ⟨by omega, by omega, fun b hb => ?_, fun b hb => (hval b).2.2.2 (by omega), by omega, by omega⟩
        by_cases e : b = bP A q p
        · have := (hval b).1 (by omega); omega
        · by_cases e2 : b = bP A q p + 1
          · have := (hval b).2.1 (by omega); omega
          · exact (hval b).2.2.2 (by omega)
/-- v tells by which beats G holds -/
def enc (v : Int) (G : Int → Prop) : Prop := (v = 1001 ∧ ∀ L, -20 ≤ L ∧ L ≤ 20 → G L) ∨ (v = 1000 ∧ ∀ L, -20 ≤ L ∧ L ≤ 20 → ¬ G L) ∨ ((-20 ≤ v ∧ v ≤ 20) ∧ ∀ L, -20 ≤ L ∧ L ≤ 20 → (G L ↔ L = v))
def lc (A : Mem) (q q' p : Int) : Int := if sh A q p = sh A q' p then (if sh A q p = 0 then 1001 else if -20 ≤ bn A q p - bn A q' p ∧ bn A q p - bn A q' p ≤ 20 then bn A q p - bn A q' p else 1000) else 1000
theorem lc_enc {A : Mem} (hv : VB A) {q q' p : Int} (hq : vQ A q) (hq' : vQ A q') (hp : 0 ≤ p ∧ p < A 0 1) : enc (lc A q q' p) (AL A q q' p) := by
  obtain ⟨b1, z1, n1⟩ := hB_f hv hq hp
  obtain ⟨b2, z2, n2⟩ := hB_f hv hq' hp
  have key : ∀ L, -20 ≤ L ∧ L ≤ 20 → AL A q q' p L → sh A q p = sh A q' p ∧ (sh A q p ≠ 0 → L = bn A q p - bn A q' p) := by
    intro L hL h
    by_cases c1 : sh A q p = 0
    · by_cases c2 : sh A q' p = 0
      · exact ⟨by omega, fun h => absurd c1 h⟩
      · exfalso
        obtain ⟨-, m2, -, -, m5, m6⟩ := n2 c2
        have := h (bn A q' p + L) (by omega) (by omega)
        rw [z1 c1, show bn A q' p + L - L = bn A q' p by omega] at this
        omega
    · obtain ⟨k1, k2, k3, k4, k5, k6⟩ := n1 c1
      by_cases c2 : sh A q' p = 0
      · exfalso
        have := h (bn A q p) (by omega) (by omega)
        rw [z2 c2] at this
        omega
      · obtain ⟨m1, m2, m3, m4, m5, m6⟩ := n2 c2
        have eL : L = bn A q p - bn A q' p := by
          have i1 := h (bn A q p) (by omega) (by omega)
          have i2 := h (bn A q' p + L) (by omega) (by omega)
          rw [show bn A q' p + L - L = bn A q' p by omega] at i2
          by_cases e1 : bn A q p - L < bn A q' p
          · rw [m3 _ e1] at i1; omega
          · by_cases e2 : bn A q' p + L < bn A q p
            · rw [k3 _ e2] at i2; omega
            · omega
        refine ⟨?_, fun _ => eL⟩
        have i0 := h (bn A q p) (by omega) (by omega)
        have i1 := h (bn A q p + 1) (by omega) (by omega)
        have i2 := h (bn A q p + 2) (by omega) (by omega)
        rw [show bn A q p - L = bn A q' p by omega] at i0
        rw [show bn A q p + 1 - L = bn A q' p + 1 by omega] at i1
        rw [show bn A q p + 2 - L = bn A q' p + 2 by omega] at i2
        rw [k1, m1, i0, i1, i2]
  unfold lc
  by_cases c : sh A q p = sh A q' p
  · rw [if_pos c]
    by_cases c1 : sh A q p = 0
    · rw [if_pos c1]
      refine Or.inl ⟨rfl, fun L _ b _ _ => ?_⟩
      rw [z1 c1, z2 (by omega)]
    · rw [if_neg c1]
      obtain ⟨k1, k2, k3, k4, k5, k6⟩ := n1 c1
      obtain ⟨m1, m2, m3, m4, m5, m6⟩ := n2 (by omega)
      by_cases c2 : -20 ≤ bn A q p - bn A q' p ∧ bn A q p - bn A q' p ≤ 20
      · rw [if_pos c2]
        refine Or.inr (Or.inr ⟨c2, fun L hL => ⟨fun h => (key L hL h).2 c1, ?_⟩⟩)
        intro eL b hb1 hb2
        have x0 := b1 (bn A q p)
        have x1 := b1 (bn A q p + 1)
        have x2 := b1 (bn A q p + 2)
        have y0 := b2 (bn A q' p)
        have y1 := b2 (bn A q' p + 1)
        have y2 := b2 (bn A q' p + 2)
        by_cases e1 : b < bn A q p
        · rw [k3 b e1, m3 _ (by omega)]
        · by_cases e2 : bn A q p + 3 ≤ b
          · rw [k4 b e2, m4 _ (by omega)]
          · obtain e | e | e : b = bn A q p ∨ b = bn A q p + 1 ∨ b = bn A q p + 2 := by omega
            · rw [e, show bn A q p - L = bn A q' p by omega]; omega
            · rw [e, show bn A q p + 1 - L = bn A q' p + 1 by omega]; omega
            · rw [e, show bn A q p + 2 - L = bn A q' p + 2 by omega]; omega
      · rw [if_neg c2]
        refine Or.inr (Or.inl ⟨rfl, fun L hL h => ?_⟩)
        have := (key L hL h).2 c1
        omega
  · rw [if_neg c]
    exact Or.inr (Or.inl ⟨rfl, fun L hL h => c (key L hL h).1⟩)
def bo (v w : Int) : Int := if v = 1001 ∨ v = w then w else if w = 1001 then v else 1000
theorem bo_enc {v w : Int} {G H : Int → Prop} (hv : enc v G) (hw : enc w H) : enc (bo v w) (fun L => G L ∧ H L) := by
  unfold bo
  rcases hv with ⟨rfl, g⟩ | ⟨rfl, g⟩ | ⟨hv, g⟩
  · rw [if_pos (Or.inl rfl)]
    rcases hw with ⟨rfl, h⟩ | ⟨rfl, h⟩ | ⟨hw, h⟩
    · exact Or.inl ⟨rfl, fun L hL => ⟨g L hL, h L hL⟩⟩
    · exact Or.inr (Or.inl ⟨rfl, fun L hL x => h L hL x.2⟩)
    · exact Or.inr (Or.inr ⟨hw, fun L hL => ⟨fun x => (h L hL).mp x.2, fun x => ⟨g L hL, (h L hL).mpr x⟩⟩⟩)
  · have e : (if (1000 : Int) = 1001 ∨ 1000 = w then w else if w = 1001 then 1000 else 1000) = 1000 := by
      by_cases c : 1000 = w
      · rw [if_pos (Or.inr c)]; exact c.symm
      · rw [if_neg (by omega)]; split <;> rfl
    rw [e]
    exact Or.inr (Or.inl ⟨rfl, fun L hL x => g L hL x.1⟩)
  · rcases hw with ⟨rfl, h⟩ | ⟨rfl, h⟩ | ⟨hw, h⟩
    · rw [if_neg (by omega), if_pos rfl]
      exact Or.inr (Or.inr ⟨hv, fun L hL => ⟨fun x => (g L hL).mp x.1, fun x => ⟨(g L hL).mpr x, h L hL⟩⟩⟩)
    · rw [if_neg (by omega), if_neg (by omega)]
      exact Or.inr (Or.inl ⟨rfl, fun L hL x => h L hL x.2⟩)
    · by_cases c : v = w
      · subst c
        rw [if_pos (Or.inr rfl)]
        exact Or.inr (Or.inr ⟨hv, fun L hL => ⟨fun x => (g L hL).mp x.1, fun x => ⟨(g L hL).mpr x, (h L hL).mpr x⟩⟩⟩)
      · rw [if_neg (by omega), if_neg (by omega)]
        refine Or.inr (Or.inl ⟨rfl, fun L hL x => c ?_⟩)
        rw [← (g L hL).mp x.1, ← (h L hL).mp x.2]
theorem enc_congr {v : Int} {G H : Int → Prop} (h : ∀ L, -20 ≤ L ∧ L ≤ 20 → (G L ↔ H L)) (he : enc v G) : enc v H := by
  rcases he with ⟨e, g⟩ | ⟨e, g⟩ | ⟨e, g⟩
  · exact Or.inl ⟨e, fun L hL => (h L hL).mp (g L hL)⟩
  · exact Or.inr (Or.inl ⟨e, fun L hL x => g L hL ((h L hL).mpr x)⟩)
  · exact Or.inr (Or.inr ⟨e, fun L hL => (h L hL).symm.trans (g L hL)⟩)
theorem q_both (d : Nat) (v w : Int) (s : Mem) : sem (d + 1) 178 [v, w] s = some (bo v w, s) := by
  apply CV_eq; apply c_Parting_both
  unfold bo
  simp (disch := first | assumption | omega) only [rn, wk, al, wr_e, td_e, tm_e, mset_eq, mset_ne, if_pos, if_neg, Int.reduceAdd, Int.reduceSub, Int.reduceMul, Int.reduceNeg, Int.reduceLT, Int.reduceLE, Int.reduceEq, Int.cast_ofNat_Int, eq_self, and_true, true_and, ite_self, true_or, or_true, false_or, or_false, and_false, false_and, not_true_eq_false, not_false_eq_true, if_true, if_false, e_Parting_both_0, e_Parting_both_12, e_Parting_both_14, e_Parting_both_25, e_Parting_both_28]
theorem q_leftAligned (d : Nat) (a b c : Int) (s : Mem) (ha : 0 ≤ a ∧ a ≤ 99) (hb : 0 ≤ b ∧ b ≤ 99) (hc : 0 ≤ c ∧ c ≤ 99) : sem (d + 1) 174 [(a * 100 + b) * 100 + c] s = some (if 0 < a then 10000 * a + 100 * b + c else if 0 < b then 10000 * b + 100 * c else 10000 * c, s) := by
  apply CV_eq; apply c_Parting_leftAligned
  by_cases c0 : 0 < a
  · have e : (a * 100 + b) * 100 + c = 10000 * a + 100 * b + c := by omega
    rw [e]
    simp (disch := first | assumption | omega) only [rn, wk, al, wr_e, td_e, tm_e, mset_eq, mset_ne, if_pos, if_neg, Int.reduceAdd, Int.reduceSub, Int.reduceMul, Int.reduceNeg, Int.reduceLT, Int.reduceLE, Int.reduceEq, Int.cast_ofNat_Int, eq_self, and_true, true_and, ite_self, true_or, or_true, false_or, or_false, and_false, false_and, not_true_eq_false, not_false_eq_true, if_true, if_false, e_Parting_leftAligned_0, e_Parting_leftAligned_31]
    rw [e_Parting_leftAligned_4]
    simp (disch := first | assumption | omega) only [rn, wk, al, wr_e, td_e, tm_e, mset_eq, mset_ne, if_pos, if_neg, Int.reduceAdd, Int.reduceSub, Int.reduceMul, Int.reduceNeg, Int.reduceLT, Int.reduceLE, Int.reduceEq, Int.cast_ofNat_Int, eq_self, and_true, true_and, ite_self, true_or, or_true, false_or, or_false, and_false, false_and, not_true_eq_false, not_false_eq_true, if_true, if_false, e_Parting_leftAligned_0, e_Parting_leftAligned_31]
  · by_cases c1 : 0 < b
    · have e : (a * 100 + b) * 100 + c = 100 * b + c := by omega
      have e2 : (100 * b + c) * 100 = 10000 * b + 100 * c := by omega
      rw [e]
      simp (disch := first | assumption | omega) only [rn, wk, al, wr_e, td_e, tm_e, mset_eq, mset_ne, if_pos, if_neg, Int.reduceAdd, Int.reduceSub, Int.reduceMul, Int.reduceNeg, Int.reduceLT, Int.reduceLE, Int.reduceEq, Int.cast_ofNat_Int, eq_self, and_true, true_and, ite_self, true_or, or_true, false_or, or_false, and_false, false_and, not_true_eq_false, not_false_eq_true, if_true, if_false, e_Parting_leftAligned_0, e_Parting_leftAligned_31]
      rw [e_Parting_leftAligned_4]
      simp (disch := first | assumption | omega) only [rn, wk, al, wr_e, td_e, tm_e, mset_eq, mset_ne, if_pos, if_neg, Int.reduceAdd, Int.reduceSub, Int.reduceMul, Int.reduceNeg, Int.reduceLT, Int.reduceLE, Int.reduceEq, Int.cast_ofNat_Int, eq_self, and_true, true_and, ite_self, true_or, or_true, false_or, or_false, and_false, false_and, not_true_eq_false, not_false_eq_true, if_true, if_false, e_Parting_leftAligned_0, e_Parting_leftAligned_31, e2]
      rw [e_Parting_leftAligned_4]
      simp (disch := first | assumption | omega) only [rn, wk, al, wr_e, td_e, tm_e, mset_eq, mset_ne, if_pos, if_neg, Int.reduceAdd, Int.reduceSub, Int.reduceMul, Int.reduceNeg, Int.reduceLT, Int.reduceLE, Int.reduceEq, Int.cast_ofNat_Int, eq_self, and_true, true_and, ite_self, true_or, or_true, false_or, or_false, and_false, false_and, not_true_eq_false, not_false_eq_true, if_true, if_false, e_Parting_leftAligned_0, e_Parting_leftAligned_31]
    · by_cases c2 : 0 < c
      · have e : (a * 100 + b) * 100 + c = c := by omega
        have e2 : c * 100 * 100 = 10000 * c := by omega
        rw [e]
        simp (disch := first | assumption | omega) only [rn, wk, al, wr_e, td_e, tm_e, mset_eq, mset_ne, if_pos, if_neg, Int.reduceAdd, Int.reduceSub, Int.reduceMul, Int.reduceNeg, Int.reduceLT, Int.reduceLE, Int.reduceEq, Int.cast_ofNat_Int, eq_self, and_true, true_and, ite_self, true_or, or_true, false_or, or_false, and_false, false_and, not_true_eq_false, not_false_eq_true, if_true, if_false, e_Parting_leftAligned_0, e_Parting_leftAligned_31]
        rw [e_Parting_leftAligned_4]
        simp (disch := first | assumption | omega) only [rn, wk, al, wr_e, td_e, tm_e, mset_eq, mset_ne, if_pos, if_neg, Int.reduceAdd, Int.reduceSub, Int.reduceMul, Int.reduceNeg, Int.reduceLT, Int.reduceLE, Int.reduceEq, Int.cast_ofNat_Int, eq_self, and_true, true_and, ite_self, true_or, or_true, false_or, or_false, and_false, false_and, not_true_eq_false, not_false_eq_true, if_true, if_false, e_Parting_leftAligned_0, e_Parting_leftAligned_31]
        rw [e_Parting_leftAligned_4]
        simp (disch := first | assumption | omega) only [rn, wk, al, wr_e, td_e, tm_e, mset_eq, mset_ne, if_pos, if_neg, Int.reduceAdd, Int.reduceSub, Int.reduceMul, Int.reduceNeg, Int.reduceLT, Int.reduceLE, Int.reduceEq, Int.cast_ofNat_Int, eq_self, and_true, true_and, ite_self, true_or, or_true, false_or, or_false, and_false, false_and, not_true_eq_false, not_false_eq_true, if_true, if_false, e_Parting_leftAligned_0, e_Parting_leftAligned_31, e2]
        rw [e_Parting_leftAligned_4]
        simp (disch := first | assumption | omega) only [rn, wk, al, wr_e, td_e, tm_e, mset_eq, mset_ne, if_pos, if_neg, Int.reduceAdd, Int.reduceSub, Int.reduceMul, Int.reduceNeg, Int.reduceLT, Int.reduceLE, Int.reduceEq, Int.cast_ofNat_Int, eq_self, and_true, true_and, ite_self, true_or, or_true, false_or, or_false, and_false, false_and, not_true_eq_false, not_false_eq_true, if_true, if_false, e_Parting_leftAligned_0, e_Parting_leftAligned_31]
      · have e : (a * 100 + b) * 100 + c = 0 := by omega
        have e2 : 10000 * c = 0 := by omega
        rw [e]
        simp (disch := first | assumption | omega) only [rn, wk, al, wr_e, td_e, tm_e, mset_eq, mset_ne, if_pos, if_neg, Int.reduceAdd, Int.reduceSub, Int.reduceMul, Int.reduceNeg, Int.reduceLT, Int.reduceLE, Int.reduceEq, Int.cast_ofNat_Int, eq_self, and_true, true_and, ite_self, true_or, or_true, false_or, or_false, and_false, false_and, not_true_eq_false, not_false_eq_true, if_true, if_false, e_Parting_leftAligned_0, e_Parting_leftAligned_31]
        rw [e_Parting_leftAligned_4]
        simp (disch := first | assumption | omega) only [rn, wk, al, wr_e, td_e, tm_e, mset_eq, mset_ne, if_pos, if_neg, Int.reduceAdd, Int.reduceSub, Int.reduceMul, Int.reduceNeg, Int.reduceLT, Int.reduceLE, Int.reduceEq, Int.cast_ofNat_Int, eq_self, and_true, true_and, ite_self, true_or, or_true, false_or, or_false, and_false, false_and, not_true_eq_false, not_false_eq_true, if_true, if_false, e_Parting_leftAligned_0, e_Parting_leftAligned_31, e2]
