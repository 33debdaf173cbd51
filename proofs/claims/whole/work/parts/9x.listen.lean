/-! ===== H2: listen ===== -/
def gd (A t : Mem) (q x : Int) : Prop := (vQ A q ∧ x < A 0 3 → gl1 A t q x) ∧ (¬ (vQ A q ∧ x < A 0 3) → t 21 (4 * q + x) = -1)
theorem gd_keep {A t t' : Mem} {q x q' x' : Int} (hx : 0 ≤ x ∧ x < 4) (hx' : 0 ≤ x' ∧ x' < 4) (hne : ¬ (q' = q ∧ x' = x)) (h : Fgu t t' q x) (hg : gd A t q' x') : gd A t' q' x' := by
  have e21 : t' 21 (4 * q' + x') = t 21 (4 * q' + x') := h _ _ (by omega) (by omega) (by omega) (by omega)
  have e20 : t' 20 (4 * q' + x') = t 20 (4 * q' + x') := h _ _ (by omega) (by omega) (by omega) (by omega)
  have e19 : ∀ i, 0 ≤ i ∧ i < 3 → t' 19 (12 * q' + 3 * x' + i) = t 19 (12 * q' + 3 * x' + i) := fun i hi => h _ _ (by omega) (by omega) (by omega) (by omega)
  refine ⟨fun a => ?_, fun a => by rw [e21]; exact hg.2 a⟩
  obtain ⟨g1, g2⟩ := hg.1 a
  refine ⟨by rw [e21]; exact g1, fun b => ?_⟩
  obtain ⟨g3, g4⟩ := g2 b
  exact ⟨by rw [e20]; exact g3, fun i hi => by rw [e19 i hi]; exact g4 i hi⟩
theorem brx_b (A : Mem) (q x : Int) : 0 ≤ brx A q x ∧ brx A q x ≤ 3 := by
  have hp : ∀ v, 0 ≤ p1_ v ∧ p1_ v ≤ 1 := fun v => by unfold p1_; split <;> omega
  have a := hp (aP A q (A 5 x) 0)
  have b := hp (aP A q (A 5 x) 1)
  have c := hp (aP A q (A 5 x) 2)
  unfold brx; omega
/-- all but what listening writes is as it was -/
def Fgl (s t : Mem) : Prop := ∀ c i, ¬ (18 ≤ c ∧ c ≤ 22) → ¬ (c = 14 ∧ (i = 7 ∨ i = 8)) → t c i = s c i
/-- the state of listen, its kinds ahead of q done -/
def gI (A s t : Mem) (q : Int) : Prop := Fgl s t ∧ (∀ j, 0 ≤ j ∧ j < 364 → t 18 j = A 10 j) ∧ t 14 7 = sg (A 10) 0 364 ∧ (∀ q' x, 0 ≤ q' ∧ q' < q → 0 ≤ x ∧ x < 4 → gd A t q' x) ∧ (∀ q', 0 ≤ q' ∧ q' < q → (vQ A q' → t 22 q' = sg (brx A q') 0 (A 0 3).toNat) ∧ (¬ vQ A q' → t 22 q' = 0)) ∧ (0 ≤ t 14 8 ∧ t 14 8 ≤ 2000) ∧ ∀ q', 0 ≤ q' ∧ q' < q → vQ A q' → sg (fun x => aS A q' (A 5 x)) 0 (A 0 3).toNat ≤ t 14 8
theorem lp_gl2 (d : Nat) (A s : Mem) (hv : VB A) (hA : ∀ k, 0 ≤ k → k < 20 → win s 37 k = A k) (q : Int) (hq : 0 ≤ q ∧ q < 15) (th : Int) (hth : (th = 1 ∧ vQ A q) ∨ (th = 0 ∧ ¬ vQ A q)) (Q : Int → Mem → Prop) (hQ : ∀ t tog z, gI A s t q → (∀ x, 0 ≤ x ∧ x < 4 → gd A t q x) → ((vQ A q → t 22 q = sg (brx A q) 0 (A 0 3).toNat ∧ tog = sg (fun x => aS A q (A 5 x)) 0 (A 0 3).toNat) ∧ (¬ vQ A q → t 22 q = 0 ∧ tog = 0)) → EV (d + 3) o_Guess_listen 110 [] [14, 37, q, tog, th, z] t Q) : ∀ (n : Nat) (x : Nat) (t : Mem) (tog : Int), x + n = 4 → gI A s t q → (∀ x', 0 ≤ x' ∧ x' < (x : Int) → gd A t q x') → ((vQ A q → t 22 q = sg (brx A q) 0 (min x (A 0 3).toNat) ∧ tog = sg (fun x => aS A q (A 5 x)) 0 (min x (A 0 3).toNat)) ∧ (¬ vQ A q → t 22 q = 0 ∧ tog = 0)) → EV (d + 3) o_Guess_listen 61 [] [14, 37, q, tog, th, x] t Q := by
  have h1 := hv.1
  unfold VC at h1
  intro n
  induction n with
  | zero =>
    intro x t tog hx hI hg hb
    have ex : x = 4 := by omega
    subst ex
    rw [show min 4 (A 0 3).toNat = (A 0 3).toNat by omega] at hb
    have hq := hQ t tog 4 hI (fun x' hx' => hg x' (by omega)) hb
    rw [e_Guess_listen_61]
    simp (disch := first | assumption | omega) only [rn, wk, al, wr_e, td_e, tm_e, mset_eq, mset_ne, if_pos, if_neg, Int.reduceAdd, Int.reduceSub, Int.reduceMul, Int.reduceNeg, Int.reduceLT, Int.reduceLE, Int.reduceEq, Int.cast_ofNat_Int, eq_self, and_true, true_and, ite_self, true_or, or_true, false_or, or_false, and_false, false_and, not_true_eq_false, not_false_eq_true, if_true, if_false]
    exact hq
  | succ n ih =>
    intro x t tog hx hI hg hb
    have hF := hI.1
    have g3 : t 37 3 = A 0 3 := by rw [hF _ _ (by omega) (by omega), ← hA 0 (by omega) (by omega)]; rfl
    have e4 : q * 4 + (x : Int) = 4 * q + x := by omega
    let t0 : Mem := mset t 21 (4 * q + x) (-1)
    have ht0 : t0 = mset t 21 (4 * q + x) (-1) := rfl
    have hF0 : Fgu t t0 q x := fun c i y1 y2 y3 y4 => by rw [ht0, mset_ne (by omega)]
    have gIk : ∀ t', Fgu t t' q x → gI A s t' q := by
      intro t' h'
      obtain ⟨i1, i2, i3, i4, i5, i6, i7⟩ := hI
      refine ⟨fun c i y1 y2 => by rw [h' c i (by omega) (by omega) (by omega) (by omega)]; exact i1 c i y1 y2, fun j hj => by rw [h' _ _ (by omega) (by omega) (by omega) (by omega)]; exact i2 j hj, by rw [h' _ _ (by omega) (by omega) (by omega) (by omega)]; exact i3, fun q' x' a b => gd_keep (by omega) b (by omega) h' (i4 q' x' a b), fun q' a => by rw [h' _ _ (by omega) (by omega) (by omega) (by omega)]; exact i5 q' a, by rw [h' _ _ (by omega) (by omega) (by omega) (by omega)]; exact i6, fun q' a b => by rw [h' _ _ (by omega) (by omega) (by omega) (by omega)]; exact i7 q' a b⟩
    have en : ((x + 1 : Nat) : Int) = (x : Int) + 1 := by omega
    rw [e_Guess_listen_61]
    by_cases c : vQ A q ∧ (x : Int) < A 0 3
    · have hth1 : th = 1 := by
        rcases hth with a | a
        · exact a.1
        · exact absurd c.1 a.2
      obtain ⟨b1, b2⟩ := hb.1 c.1
      rw [show min x (A 0 3).toNat = x by omega] at b1 b2
      have s1 := sg_bd (f := brx A q) (m := 3) x 0 (fun i _ _ => brx_b A q i)
      have s2 := sg_bd (f := fun x => aS A q (A 5 x)) (m := 297) x 0 (fun i a b => aS_ok hv c.1 (hv.2.1 i (by omega)))
      have hA0 : ∀ k, 0 ≤ k → k < 20 → win t0 37 k = A k := fun k a b => by
        rw [← hA k a b]; funext i
        show t0 (37 + k) i = s (37 + k) i
        rw [ht0, mset_ne (by omega)]; exact hF _ _ (by omega) (by omega)
      have hqo := q_listenOn d A t0 hv hA0 q x c.1 (by omega) (by rw [ht0, mset_eq rfl rfl]) (by rw [ht0, mset_ne (by omega), b1]; omega)
      have ass := aS_ok hv c.1 (hv.2.1 (x : Int) (by omega))
      rw [ht0] at hqo
      simp (disch := first | assumption | omega) only [rn, wk, al, wr_e, td_e, tm_e, mset_eq, mset_ne, if_pos, if_neg, Int.reduceAdd, Int.reduceSub, Int.reduceMul, Int.reduceNeg, Int.reduceLT, Int.reduceLE, Int.reduceEq, Int.cast_ofNat_Int, eq_self, and_true, true_and, ite_self, true_or, or_true, false_or, or_false, and_false, false_and, not_true_eq_false, not_false_eq_true, if_true, if_false, g3, e4, hth1]
      refine EV_call (CV_mono hqo ?_)
      rintro r y ⟨rfl, y1, y2, y3⟩
      have y1' : Fgu t y q x := fun c i z1 z2 z3 z4 => by rw [y1 c i z1 z2 z3 z4, mset_ne (by omega)]
      have hx2 := ih (x + 1) y (tog + aS A q (A 5 x)) (by omega) (gIk y y1') (fun x' hx' => by
        by_cases e : x' = x
        · rw [e]; exact ⟨fun _ => y2, fun h => absurd c h⟩
        · exact gd_keep (by omega) (by omega) (by omega) y1' (hg x' (by omega))) ⟨fun _ => by
          rw [show min (x + 1) (A 0 3).toNat = x + 1 by omega, sg_last, sg_last, Int.zero_add, y3, mset_ne (by omega), b1, b2]
          exact ⟨rfl, rfl⟩, fun h => absurd c.1 h⟩
      rw [en, hth1] at hx2
      simp (disch := first | assumption | omega) only [rn, wk, al, wr_e, td_e, tm_e, mset_eq, mset_ne, if_pos, if_neg, Int.reduceAdd, Int.reduceSub, Int.reduceMul, Int.reduceNeg, Int.reduceLT, Int.reduceLE, Int.reduceEq, Int.cast_ofNat_Int, eq_self, and_true, true_and, ite_self, true_or, or_true, false_or, or_false, and_false, false_and, not_true_eq_false, not_false_eq_true, if_true, if_false, e_Guess_listen_0, e_Guess_listen_104, e_Guess_listen_128]
      exact hx2
    · have hx2 := ih (x + 1) t0 tog (by omega) (gIk t0 hF0) (fun x' hx' => by
        by_cases e : x' = x
        · rw [e]; exact ⟨fun h => absurd h c, fun _ => by rw [ht0, mset_eq rfl rfl]⟩
        · exact gd_keep (by omega) (by omega) (by omega) hF0 (hg x' (by omega))) (by
        have e22 : t0 22 q = t 22 q := by rw [ht0, mset_ne (by omega)]
        rw [e22]
        refine ⟨fun h => ?_, hb.2⟩
        have := hb.1 h
        have hx3 : ¬ (x : Int) < A 0 3 := fun hh => c ⟨h, hh⟩
        rw [show min (x + 1) (A 0 3).toNat = min x (A 0 3).toNat by omega]; exact this)
      rw [en, ht0] at hx2
      rcases hth with ⟨h1', h2'⟩ | ⟨h1', h2'⟩
      · have hx3 : ¬ (x : Int) < A 0 3 := fun hh => c ⟨h2', hh⟩
        rw [h1'] at hx2 ⊢
        simp (disch := first | assumption | omega) only [rn, wk, al, wr_e, td_e, tm_e, mset_eq, mset_ne, if_pos, if_neg, Int.reduceAdd, Int.reduceSub, Int.reduceMul, Int.reduceNeg, Int.reduceLT, Int.reduceLE, Int.reduceEq, Int.cast_ofNat_Int, eq_self, and_true, true_and, ite_self, true_or, or_true, false_or, or_false, and_false, false_and, not_true_eq_false, not_false_eq_true, if_true, if_false, e_Guess_listen_0, e_Guess_listen_104, e_Guess_listen_128, g3, e4]
        exact hx2
      · rw [h1'] at hx2 ⊢
        simp (disch := first | assumption | omega) only [rn, wk, al, wr_e, td_e, tm_e, mset_eq, mset_ne, if_pos, if_neg, Int.reduceAdd, Int.reduceSub, Int.reduceMul, Int.reduceNeg, Int.reduceLT, Int.reduceLE, Int.reduceEq, Int.cast_ofNat_Int, eq_self, and_true, true_and, ite_self, true_or, or_true, false_or, or_false, and_false, false_and, not_true_eq_false, not_false_eq_true, if_true, if_false, e_Guess_listen_0, e_Guess_listen_104, e_Guess_listen_128, g3, e4]
        exact hx2
theorem lp_gl1 (d : Nat) (A s : Mem) (hv : VB A) (hA : ∀ k, 0 ≤ k → k < 20 → win s 37 k = A k) (Q : Int → Mem → Prop) (hQ : ∀ t, gI A s t 15 → Q 0 t) : ∀ (n : Nat) (q : Int) (t : Mem) (z1 z2 z3 : Int), 0 ≤ q → q + n = 15 → gI A s t q → EV (d + 3) o_Guess_listen 31 [] [14, 37, q, z1, z2, z3] t Q := by
  have h1 := hv.1
  unfold VC at h1
  intro n
  induction n with
  | zero =>
    intro q t z1 z2 z3 h0 hq hI
    have eq : q = 15 := by omega
    subst eq
    have hq := hQ t hI
    rw [e_Guess_listen_31]
    simp (disch := first | assumption | omega) only [rn, wk, al, wr_e, td_e, tm_e, mset_eq, mset_ne, if_pos, if_neg, Int.reduceAdd, Int.reduceSub, Int.reduceMul, Int.reduceNeg, Int.reduceLT, Int.reduceLE, Int.reduceEq, Int.cast_ofNat_Int, eq_self, and_true, true_and, ite_self, true_or, or_true, false_or, or_false, and_false, false_and, not_true_eq_false, not_false_eq_true, if_true, if_false, e_Guess_listen_0, e_Guess_listen_104, e_Guess_listen_110, e_Guess_listen_128]
    exact hq
  | succ n ih =>
    intro q t z1 z2 z3 h0 hq hI
    obtain ⟨i1, i2, i3, i4, i5, i6, i7⟩ := hI
    have g4 : t 37 4 = A 0 4 := by rw [i1 _ _ (by omega) (by omega), ← hA 0 (by omega) (by omega)]; rfl
    have g7 : ∀ i, t 44 i = A 7 i := fun i => by rw [i1 _ _ (by omega) (by omega), ← hA 7 (by omega) (by omega)]; rfl
    obtain ⟨th, hth, qc⟩ : ∃ th, ((th = 1 ∧ vQ A q) ∨ (th = 0 ∧ ¬ vQ A q)) ∧ sem (d + 3) 65 [37, q / 3, q % 3] (mset t 22 q 0) = some (th, mset t 22 q 0) := by
      have e := q_hasCry (d + 2) isH37 (q / 3) (q % 3) (mset t 22 q 0) (by rw [mset_ne (by omega)]; omega)
      simp (disch := omega) only [Int.reduceAdd, mset_ne, g4, g7] at e
      by_cases c : vQ A q
      · refine ⟨1, Or.inl ⟨rfl, c⟩, ?_⟩
        unfold vQ at c
        rw [e, if_pos (by omega)]
      · refine ⟨0, Or.inr ⟨rfl, c⟩, ?_⟩
        unfold vQ at c
        rw [e, if_neg (by omega)]
    have hI0 : gI A s (mset t 22 q 0) q := by
      refine ⟨fun c i y1 y2 => by rw [mset_ne (by omega)]; exact i1 c i y1 y2, fun j hj => by rw [mset_ne (by omega)]; exact i2 j hj, by rw [mset_ne (by omega)]; exact i3, fun q' x' a b => ?_, fun q' a => by rw [mset_ne (by omega)]; exact i5 q' a, by rw [mset_ne (by omega)]; exact i6, fun q' a b => by rw [mset_ne (by omega)]; exact i7 q' a b⟩
      have := i4 q' x' a b
      unfold gd gl1 at this ⊢
      simp (disch := omega) only [mset_ne]
      exact this
    rw [e_Guess_listen_31]
    simp (disch := first | assumption | omega) only [rn, wk, al, wr_e, td_e, tm_e, mset_eq, mset_ne, if_pos, if_neg, Int.reduceAdd, Int.reduceSub, Int.reduceMul, Int.reduceNeg, Int.reduceLT, Int.reduceLE, Int.reduceEq, Int.cast_ofNat_Int, eq_self, and_true, true_and, ite_self, true_or, or_true, false_or, or_false, and_false, false_and, not_true_eq_false, not_false_eq_true, if_true, if_false, qc]
    refine lp_gl2 d A s hv hA q (by omega) th hth Q ?_ 4 0 (mset t 22 q 0) 0 (by omega) hI0 (fun x' hx' => by omega) ⟨fun _ => ⟨by rw [mset_eq rfl rfl, show min 0 (A 0 3).toNat = 0 by omega]; rfl, by rw [show min 0 (A 0 3).toNat = 0 by omega]; rfl⟩, fun _ => ⟨by rw [mset_eq rfl rfl], rfl⟩⟩
    intro y tog z hy hgd hb
    obtain ⟨j1, j2, j3, j4, j5, j6, j7⟩ := hy
    have htog : 0 ≤ tog ∧ tog ≤ 1500 := by
      by_cases c : vQ A q
      · have := (hb.1 c).2
        have s2 := sg_bd (f := fun x => aS A q (A 5 x)) (m := 297) (A 0 3).toNat 0 (fun i a b => aS_ok hv c (hv.2.1 i (by omega)))
        omega
      · have := (hb.2 c).2; omega
    have hx2 := ih (q + 1) (mset y 14 8 (max (y 14 8) tog)) tog th z (by omega) (by omega) (by
      refine ⟨fun c i y1 y2 => by rw [mset_ne (by omega)]; exact j1 c i y1 y2, fun j hj => by rw [mset_ne (by omega)]; exact j2 j hj, by rw [mset_ne (by omega)]; exact j3, fun q' x' a b => ?_, fun q' a => ?_, by rw [mset_eq rfl rfl]; omega, fun q' a b => ?_⟩
      · have : gd A y q' x' := by
          by_cases e : q' = q
          · subst e; exact hgd x' b
          · exact j4 q' x' (by omega) b
        unfold gd gl1 at this ⊢
        simp (disch := omega) only [mset_ne]
        exact this
      · rw [mset_ne (by omega)]
        by_cases e : q' = q
        · subst e; exact ⟨fun h => (hb.1 h).1, fun h => (hb.2 h).1⟩
        · exact j5 q' (by omega)
      · rw [mset_eq rfl rfl]
        by_cases e : q' = q
        · subst e; rw [← (hb.1 b).2]; omega
        · have := j7 q' (by omega) b; omega)
    simp (disch := first | assumption | omega) only [rn, wk, al, wr_e, td_e, tm_e, mset_eq, mset_ne, if_pos, if_neg, Int.reduceAdd, Int.reduceSub, Int.reduceMul, Int.reduceNeg, Int.reduceLT, Int.reduceLE, Int.reduceEq, Int.cast_ofNat_Int, eq_self, and_true, true_and, ite_self, true_or, or_true, false_or, or_false, and_false, false_and, not_true_eq_false, not_false_eq_true, if_true, if_false, e_Guess_listen_0, e_Guess_listen_104, e_Guess_listen_110, e_Guess_listen_128]
    exact hx2
theorem q_Glisten (d : Nat) (A s : Mem) (hv : VB A) (hA : ∀ k, 0 ≤ k → k < 20 → win s 37 k = A k) (hr : ∀ j, 0 ≤ j ∧ j < 364 → 0 ≤ A 10 j ∧ A 10 j ≤ 999) : CV (d + 4) 141 [14, 37] s fun _ t => gI A s t 15 := by
  have g10 : ∀ j, s 47 j = A 10 j := fun j => by rw [← hA 10 (by omega) (by omega)]; rfl
  have qt := q_totalKept (d + 2) isH37 (mcopy s 47 0 18 0 364) (fun j hj => by
    simp only [Int.reduceAdd]
    rw [mcopy_out (by omega), g10]; exact hr j hj)
  simp only [Int.reduceAdd] at qt
  have es : sg (mcopy s 47 0 18 0 364 47) 0 364 = sg (A 10) 0 364 := sg_congr 364 0 (fun j a b => by rw [mcopy_out (by omega), g10])
  rw [es] at qt
  apply c_Guess_listen
  simp (disch := first | assumption | omega) only [rn, wk, al, wr_e, td_e, tm_e, mset_eq, mset_ne, if_pos, if_neg, Int.reduceAdd, Int.reduceSub, Int.reduceMul, Int.reduceNeg, Int.reduceLT, Int.reduceLE, Int.reduceEq, Int.cast_ofNat_Int, eq_self, and_true, true_and, ite_self, true_or, or_true, false_or, or_false, and_false, false_and, not_true_eq_false, not_false_eq_true, if_true, if_false, e_Guess_listen_0, e_Guess_listen_104, e_Guess_listen_110, e_Guess_listen_128, qt]
  refine lp_gl1 d A s hv hA _ (fun t h => h) 15 0 _ _ _ _ (by omega) (by omega) ⟨fun c i y1 y2 => ?_, fun j hj => ?_, ?_, fun q' x a b => by omega, fun q' a => by omega, ?_, fun q' a b => by omega⟩
  · rw [mset_ne (by omega), mset_ne (by omega), mcopy_out (by omega)]
  · rw [mset_ne (by omega), mset_ne (by omega), mcopy_in rfl (by omega), g10]; congr 1; omega
  · rw [mset_ne (by omega), mset_eq rfl rfl]
  · rw [mset_eq rfl rfl]; omega
