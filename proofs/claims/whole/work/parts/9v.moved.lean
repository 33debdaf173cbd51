/-! ===== H2: moved, movedAt alike ===== -/
theorem sb_A2 {A : Mem} (hK : KA A) {D : Int → Int → Int} {w z l x b : Int} (hx : 0 ≤ x ∧ x < A 0 3) : sb (A2 A D w z l) x b = sg (fun k => ptd A (fW A D w (1000 * z + l) k x) (A 9 k) b) 0 (A 0 5).toNat := by
  obtain ⟨hc, hw, hvs, hvl, hvn, hk, hr⟩ := hK
  have hcc := hc
  unfold VC at hcc
  have hp := hvs x hx
  have e0 : A2 A D w z l 0 = A 0 := A2_o (by omega) (by omega) (by omega)
  have e9 : A2 A D w z l 9 = A 9 := A2_o (by omega) (by omega) (by omega)
  have e5 : A2 A D w z l 5 = A 5 := A2_o (by omega) (by omega) (by omega)
  have e6 : A2 A D w z l 6 = A 6 := A2_o (by omega) (by omega) (by omega)
  have e8 : A2 A D w z l 8 = A 8 := A2_o (by omega) (by omega) (by omega)
  unfold sb
  rw [e0, e9]
  apply sg_congr
  intro k _ _
  rw [pt_ptd, e5]
  have ed : dP (A2 A D w z l) (A 9 k / 63) (A 5 x) = Nw D (A 2 (2 * w)) (A 2 (2 * w + 1)) (1000 * z + l) (A 6 (A 9 k / 63)) (A 5 x) := by
    unfold dP
    rw [e6]
    show (if (11 : Int) = 11 then _ else _) = _
    rw [if_pos rfl, show (7 * A 6 (A 9 k / 63) + A 5 x) / 7 = A 6 (A 9 k / 63) by omega, show (7 * A 6 (A 9 k / 63) + A 5 x) % 7 = A 5 x by omega]
  rw [ed]
  unfold ptd
  rw [e8]
  show _ = if fW A D w (1000 * z + l) k x < 10000000 ∧ _ then _ else 0
  have ef : fW A D w (1000 * z + l) k x = Mw D (A 2 (2 * w)) (A 2 (2 * w + 1)) (1000 * z + l) (A 6 (A 9 k / 63)) (A 5 x) := rfl
  rw [ef]
  unfold Nw
  by_cases c : Mw D (A 2 (2 * w)) (A 2 (2 * w + 1)) (1000 * z + l) (A 6 (A 9 k / 63)) (A 5 x) < 10000000
  · rw [if_pos c]
  · rw [if_neg c, if_neg (fun h => by omega), if_neg (fun h => c h.1)]
/-- the reference's slot tells of the hall A, and of what is recorded -/
def KR (A s : Mem) : Prop := RC A (s 138) ∧ RW A (s 138) ∧ RS A (s 138) ∧ RLc A (s 138) ∧ RK A (s 138) ∧ (∀ x b, 0 ≤ x ∧ x < 4 → 0 ≤ b ∧ b < 91 → s 138 (134 + 91 * x + b) = A 10 (4 * b + x)) ∧ ∀ x b, A 0 3 ≤ x ∧ x < 4 → 0 ≤ b ∧ b < 91 → A 10 (4 * b + x) = 0
def F9 (s u : Mem) (w : Int) : Prop := ∀ c i, c ≠ 147 → c ≠ 146 → ¬ (c = 137 ∧ (i = 26 ∨ i = 27)) → ¬ (c = 138 ∧ (i = 12 + 4 * w ∨ i = 13 + 4 * w)) → u c i = s c i
theorem q_diffW (d : Nat) (A s u : Mem) (hK : KA A) (hR : KR A s) (D : Int → Int → Int) (w z l : Int) (hwr : 0 ≤ w ∧ w < A 0 2) (hz : 1 ≤ z ∧ z ≤ 9) (hl : 0 ≤ l ∧ l ≤ 9) (hD : Fpost A w 1000 10000000 D) (hf : F9 s u w) (g2 : u 138 (12 + 4 * w) = z) (g3 : u 138 (13 + 4 * w) = l) : CV (d + 6) 318 [137] u fun r t => Ff u t ∧ ((r = 0 ∧ Ex A (fW A D w (1000 * z + l))) ∨ (0 < r ∧ ¬ Ex A (fW A D w (1000 * z + l)))) := by
  have hK' := hK
  obtain ⟨hc, hw, hvs, hvl, hvn, hk, hr⟩ := hK'
  obtain ⟨rc, rw_, rs, rl, rk, ru, rz⟩ := hR
  have hcc := hc
  unfold VC at hcc
  obtain ⟨v1, v2, v3⟩ := A2_ok hc hw hwr hz hl hD
  have e0 : A2 A D w z l 0 = A 0 := A2_o (by omega) (by omega) (by omega)
  have e5 : A2 A D w z l 5 = A 5 := A2_o (by omega) (by omega) (by omega)
  have e6 : A2 A D w z l 6 = A 6 := A2_o (by omega) (by omega) (by omega)
  have e7 : A2 A D w z l 7 = A 7 := A2_o (by omega) (by omega) (by omega)
  have e8 : A2 A D w z l 8 = A 8 := A2_o (by omega) (by omega) (by omega)
  have e9 : A2 A D w z l 9 = A 9 := A2_o (by omega) (by omega) (by omega)
  have e2 : A2 A D w z l 2 = A 2 := A2_o (by omega) (by omega) (by omega)
  have g : ∀ i, ¬ (i = 12 + 4 * w ∨ i = 13 + 4 * w) → u 138 i = s 138 i := fun i h => hf _ _ (by omega) (by omega) (by omega) (by omega)
  have hRA : RA (A2 A D w z l) u := by
    refine ⟨⟨v1, v2, ?_, ?_, v3⟩, ?_, ?_, ?_, ?_, ?_⟩
    · unfold VS; rw [e0, e5]; exact hvs
    · unfold VL; rw [e0, e6, e7, e8]; exact hvl
    · unfold RC at rc ⊢; rw [e0, g 0 (by omega), g 1 (by omega), g 2 (by omega), g 3 (by omega), g 4 (by omega), g 5 (by omega), g 6 (by omega)]; exact rc
    · intro e he
      rw [e0] at he
      have q := rw_ e he
      rw [e2, g (10 + 4 * e) (by omega), g (11 + 4 * e) (by omega), A2_c (by omega), A2_c (by omega)]
      by_cases c : e = w
      · subst c
        rw [g2, g3, chg_w.1, chg_w.2]; exact ⟨q.1, q.2.1, rfl, rfl⟩
      · rw [g (12 + 4 * e) (by omega), g (13 + 4 * e) (by omega), chg_o (by omega), chg_o (by omega)]; exact q
    · intro i hi
      rw [e0] at hi
      rw [e5, g _ (by omega)]; exact rs i hi
    · intro c hc'
      rw [e0] at hc'
      have q := rl c hc'
      have q2 := (hvl c hc').2.1
      rw [e6, e7, e8, g _ (by omega), g _ (by omega)]
      refine ⟨q.1, q.2.1, fun k i a b => ?_⟩
      rw [g _ (by omega)]; exact q.2.2 k i a b
    · intro k hk1
      rw [e0] at hk1
      have q := rk k hk1
      rw [e0, e9, e7, g (109 + 3 * k) (by omega), g (110 + 3 * k) (by omega), g (111 + 3 * k) (by omega)]; exact q
  have hks2 : vKs (A2 A D w z l) := by unfold vKs vK vQ at hk ⊢; rw [e0, e7, e9]; exact hk
  refine CV_mono (q_differing d (A2 A D w z l) u hRA hks2 ?_) ?_
  · intro x b hx hb
    rw [e0] at hx
    rw [g _ (by omega), show 134 + (91 * x + b) = 134 + 91 * x + b by omega, ru x b (by omega) hb]
    exact hr _ (by omega)
  · rintro r t ⟨hr', t1⟩
    refine ⟨t1, ?_⟩
    have hcell : ∀ x b, 0 ≤ x ∧ x < A 0 3 → 0 ≤ b ∧ b < 91 → ne_ (sb (A2 A D w z l) x b) (u 138 (134 + (91 * x + b))) = ne_ (sg (fun k => ptd A (fW A D w (1000 * z + l) k x) (A 9 k) b) 0 (A 0 5).toNat) (A 10 (4 * b + x)) := by
      intro x b hx hb
      rw [sb_A2 hK hx, g _ (by omega), show 134 + (91 * x + b) = 134 + 91 * x + b by omega, ru x b (by omega) hb]
    have hne : ∀ p q : Int, 0 ≤ ne_ p q ∧ (ne_ p q = 0 ↔ p = q) := by
      intro p q; unfold ne_; split <;> omega
    rw [e0] at hr'
    have n1 : ∀ x, 0 ≤ x ∧ x < A 0 3 → 0 ≤ sg (fun b => ne_ (sb (A2 A D w z l) x b) (u 138 (134 + (91 * x + b)))) 0 91 := fun x hx => (sg_nn 91 0 (fun b _ _ => (hne _ _).1)).1
    have n2 := sg_nn (f := fun x => sg (fun b => ne_ (sb (A2 A D w z l) x b) (u 138 (134 + (91 * x + b)))) 0 91) (A 0 3).toNat 0 (fun x a b => n1 x (by omega))
    rw [← hr'] at n2
    by_cases c : r = 0
    · refine Or.inl ⟨c, fun x b hx hb => ?_⟩
      by_cases cx : x < A 0 3
      · rw [if_pos cx]
        have m1 := n2.2 c x (by omega) (by omega)
        have m2 := (sg_nn (f := fun b => ne_ (sb (A2 A D w z l) x b) (u 138 (134 + (91 * x + b)))) 91 0 (fun b _ _ => (hne _ _).1)).2 m1 b (by omega) (by omega)
        have m3 := hcell x b ⟨hx.1, cx⟩ hb
        rw [m2] at m3
        exact (hne _ _).2.mp m3.symm
      · rw [if_neg cx, rz x b (by omega) hb]
    · refine Or.inr ⟨by omega, fun hE => c ?_⟩
      rw [hr']
      refine sg_zero _ 0 _ (fun x a b => sg_zero 91 0 _ (fun b' a' b'' => ?_))
      have q := hE x b' (by omega) (by omega)
      rw [if_pos (by omega)] at q
      rw [hcell x b' (by omega) (by omega)]
      exact (hne _ _).2.mpr q
theorem lp_mo2 (d : Nat) (A s : Mem) (hK : KA A) (hR : KR A s) (D : Int → Int → Int) (w k : Int) (hwr : 0 ≤ w ∧ w < A 0 2) (hD : Fpost A w 1000 10000000 D) (Q : Int → Mem → Prop) (hQ : ∀ u z1 many found, F9 s u w → ((found = -1 ∧ many = cnt A (90 * (w + 1)) ∧ ∀ j, 0 ≤ j ∧ j < 90 * (w + 1) → Hj A j → cnt A j ≠ k) ∨ (0 ≤ found ∧ ∃ j, (0 ≤ j ∧ j < 90 * (w + 1)) ∧ Hj A j ∧ cnt A j = k ∧ found = 1000 * (j / 90) + 10 * (1 + j % 90 / 10) + j % 10)) → EV (d + 6) o_R_movedOf 164 [] [137, k, many, w, 10 + 4 * w, A 3 w, A 4 w, found, z1] u Q) : ∀ (n : Nat) (i : Int) (u : Mem), 0 ≤ i → i + n = 90 → F9 s u w → (∀ j, 0 ≤ j ∧ j < 90 * w + i → Hj A j → cnt A j ≠ k) → EV (d + 6) o_R_movedOf 48 [] [137, k, cnt A (90 * w + i), w, 10 + 4 * w, A 3 w, A 4 w, -1, i] u Q := by
  have hK' := hK
  obtain ⟨hc, hw, hvs, hvl, hvn, hk, hr⟩ := hK'
  have hcc := hc
  unfold VC at hcc
  have hv := hw w hwr
  intro n
  induction n with
  | zero =>
    intro i u h0 hi hf hN
    have ei : i = 90 := by omega
    subst ei
    have hq := hQ u 90 (cnt A (90 * w + 90)) (-1) hf (Or.inl ⟨rfl, by rw [show 90 * (w + 1) = 90 * w + 90 by omega], fun j hj => hN j (by omega)⟩)
    rw [e_R_movedOf_48]
    simp (disch := first | assumption | omega) only [rn, wk, al, wr_e, td_e, tm_e, mset_eq, mset_ne, if_pos, if_neg, Int.reduceAdd, Int.reduceSub, Int.reduceMul, Int.reduceNeg, Int.reduceLT, Int.reduceLE, Int.reduceEq, Int.cast_ofNat_Int, eq_self, and_true, true_and, ite_self, true_or, or_true, false_or, or_false, and_false, false_and, not_true_eq_false, not_false_eq_true, if_true, if_false]
    exact hq
  | succ n ih =>
    intro i u h0 hi hf hN
    obtain ⟨J, hJ⟩ : ∃ J, J = 90 * w + i := ⟨_, rfl⟩
    have hHj : Hj A J = Hw A w (1 + i / 10) (i % 10) := by
      unfold Hj
      rw [show J / 90 = w by omega, show 1 + J % 90 / 10 = 1 + i / 10 by omega, show J % 10 = i % 10 by omega]
    have hcb := cnt_b (A := A) (j := J) (by omega)
    have hcs := cnt_s (A := A) (j := J) (by omega)
    rw [← hJ] at hN
    have skip : ∀ t, F9 s t w → ¬ Hj A J → EV (d + 6) o_R_movedOf 158 [] [137, k, cnt A J, w, 10 + 4 * w, A 3 w, A 4 w, -1, i] t Q := by
      intro t ht hn
      rw [ind_0 hn, Int.add_zero] at hcs
      have hx := ih (i + 1) t (by omega) (by omega) ht (fun j hj hH => by
        by_cases e : j = J
        · subst e; exact absurd hH hn
        · exact hN j (by omega) hH)
      rw [show 90 * w + (i + 1) = J + 1 by omega, hcs] at hx
      simp (disch := first | assumption | omega) only [rn, wk, al, wr_e, td_e, tm_e, mset_eq, mset_ne, if_pos, if_neg, Int.reduceAdd, Int.reduceSub, Int.reduceMul, Int.reduceNeg, Int.reduceLT, Int.reduceLE, Int.reduceEq, Int.cast_ofNat_Int, eq_self, and_true, true_and, ite_self, true_or, or_true, false_or, or_false, and_false, false_and, not_true_eq_false, not_false_eq_true, if_true, if_false, e_R_movedOf_0, e_R_movedOf_86, e_R_movedOf_126, e_R_movedOf_155, e_R_movedOf_158, e_R_movedOf_195, e_R_movedOf_201, e_R_movedOf_209, e_R_movedOf_210]
      exact hx
    rw [← hJ, e_R_movedOf_48]
    by_cases cs : 1 + i / 10 = A 3 w ∧ i % 10 = A 4 w
    · have hn : ¬ Hj A J := by rw [hHj]; intro h; exact h.1 cs
      have hx := skip u hf hn
      have es1 : ¬ ¬ 1 + i / 10 = A 3 w := by omega
      have es2 : ¬ ¬ i % 10 = A 4 w := by omega
      simp (disch := first | assumption | omega) only [rn, wk, al, wr_e, td_e, tm_e, mset_eq, mset_ne, if_pos, if_neg, Int.reduceAdd, Int.reduceSub, Int.reduceMul, Int.reduceNeg, Int.reduceLT, Int.reduceLE, Int.reduceEq, Int.cast_ofNat_Int, eq_self, and_true, true_and, ite_self, true_or, or_true, false_or, or_false, and_false, false_and, not_true_eq_false, not_false_eq_true, if_true, if_false]
      exact hx
    · have hH : Hj A J ↔ Ex A (fW A D w (1000 * (1 + i / 10) + i % 10)) := by
        rw [hHj, Hw_iff hc hw hvs hvl hk hwr hD]
        exact ⟨fun h => h.2, fun h => ⟨cs, h⟩⟩
      have e2 : 10 + 4 * w + 2 = 12 + 4 * w := by omega
      have e3 : 10 + 4 * w + 3 = 13 + 4 * w := by omega
      have go : EV (d + 6) o_R_movedOf 86 [] [137, k, cnt A J, w, 10 + 4 * w, A 3 w, A 4 w, -1, i] u Q := by
        rw [e_R_movedOf_86]
        simp (disch := first | assumption | omega) only [rn, wk, al, wr_e, td_e, tm_e, mset_eq, mset_ne, if_pos, if_neg, Int.reduceAdd, Int.reduceSub, Int.reduceMul, Int.reduceNeg, Int.reduceLT, Int.reduceLE, Int.reduceEq, Int.cast_ofNat_Int, eq_self, and_true, true_and, ite_self, true_or, or_true, false_or, or_false, and_false, false_and, not_true_eq_false, not_false_eq_true, if_true, if_false, e2, e3]
        refine EV_call (CV_mono (q_diffW d A s (mset (mset u 138 (12 + 4 * w) (1 + i / 10)) 138 (13 + 4 * w) (i % 10)) hK hR D w (1 + i / 10) (i % 10) hwr (by omega) (by omega) hD (fun c j y1 y2 y3 y4 => by rw [mset_ne (by omega), mset_ne (by omega)]; exact hf c j y1 y2 y3 y4) (by rw [mset_ne (by omega), mset_eq rfl rfl]) (by rw [mset_eq rfl rfl])) ?_)
        rintro r t ⟨t1, ht⟩
        have hft : F9 s t w := fun c j y1 y2 y3 y4 => by
          rw [t1 c j y1 y2 y3, mset_ne (by omega), mset_ne (by omega)]; exact hf c j y1 y2 y3 y4
        rcases ht with ⟨rfl, hE⟩ | ⟨hr', hE⟩
        · have hh := hH.mpr hE
          by_cases ck : cnt A J = k
          · have hq := hQ t (i + 1) (cnt A J + 1) (1000 * w + 10 * (1 + i / 10) + i % 10) hft (Or.inr ⟨by omega, J, by omega, hh, ck, by omega⟩)
            simp (disch := first | assumption | omega) only [rn, wk, al, wr_e, td_e, tm_e, mset_eq, mset_ne, if_pos, if_neg, Int.reduceAdd, Int.reduceSub, Int.reduceMul, Int.reduceNeg, Int.reduceLT, Int.reduceLE, Int.reduceEq, Int.cast_ofNat_Int, eq_self, and_true, true_and, ite_self, true_or, or_true, false_or, or_false, and_false, false_and, not_true_eq_false, not_false_eq_true, if_true, if_false, e_R_movedOf_0, e_R_movedOf_86, e_R_movedOf_126, e_R_movedOf_155, e_R_movedOf_158, e_R_movedOf_195, e_R_movedOf_201, e_R_movedOf_209, e_R_movedOf_210]
            rw [e_R_movedOf_48]
            by_cases c90 : 90 ≤ i + 1
            · simp (disch := first | assumption | omega) only [rn, wk, al, wr_e, td_e, tm_e, mset_eq, mset_ne, if_pos, if_neg, Int.reduceAdd, Int.reduceSub, Int.reduceMul, Int.reduceNeg, Int.reduceLT, Int.reduceLE, Int.reduceEq, Int.cast_ofNat_Int, eq_self, and_true, true_and, ite_self, true_or, or_true, false_or, or_false, and_false, false_and, not_true_eq_false, not_false_eq_true, if_true, if_false]
              exact hq
            · simp (disch := first | assumption | omega) only [rn, wk, al, wr_e, td_e, tm_e, mset_eq, mset_ne, if_pos, if_neg, Int.reduceAdd, Int.reduceSub, Int.reduceMul, Int.reduceNeg, Int.reduceLT, Int.reduceLE, Int.reduceEq, Int.cast_ofNat_Int, eq_self, and_true, true_and, ite_self, true_or, or_true, false_or, or_false, and_false, false_and, not_true_eq_false, not_false_eq_true, if_true, if_false]
              exact hq
          · have hx := ih (i + 1) t (by omega) (by omega) hft (fun j hj hHj' => by
              by_cases e : j = J
              · subst e; exact ck
              · exact hN j (by omega) hHj')
            rw [ind_1 hh] at hcs
            rw [show 90 * w + (i + 1) = J + 1 by omega, hcs] at hx
            simp (disch := first | assumption | omega) only [rn, wk, al, wr_e, td_e, tm_e, mset_eq, mset_ne, if_pos, if_neg, Int.reduceAdd, Int.reduceSub, Int.reduceMul, Int.reduceNeg, Int.reduceLT, Int.reduceLE, Int.reduceEq, Int.cast_ofNat_Int, eq_self, and_true, true_and, ite_self, true_or, or_true, false_or, or_false, and_false, false_and, not_true_eq_false, not_false_eq_true, if_true, if_false, e_R_movedOf_0, e_R_movedOf_86, e_R_movedOf_126, e_R_movedOf_155, e_R_movedOf_158, e_R_movedOf_195, e_R_movedOf_201, e_R_movedOf_209, e_R_movedOf_210]
            exact hx
        · have hx := skip t hft (fun h => hE (hH.mp h))
          simp (disch := first | assumption | omega) only [rn, wk, al, wr_e, td_e, tm_e, mset_eq, mset_ne, if_pos, if_neg, Int.reduceAdd, Int.reduceSub, Int.reduceMul, Int.reduceNeg, Int.reduceLT, Int.reduceLE, Int.reduceEq, Int.cast_ofNat_Int, eq_self, and_true, true_and, ite_self, true_or, or_true, false_or, or_false, and_false, false_and, not_true_eq_false, not_false_eq_true, if_true, if_false]
          exact hx
      by_cases c1 : 1 + i / 10 = A 3 w
      · have c2 : ¬ i % 10 = A 4 w := fun h => cs ⟨c1, h⟩
        simp (disch := first | assumption | omega) only [rn, wk, al, wr_e, td_e, tm_e, mset_eq, mset_ne, if_pos, if_neg, Int.reduceAdd, Int.reduceSub, Int.reduceMul, Int.reduceNeg, Int.reduceLT, Int.reduceLE, Int.reduceEq, Int.cast_ofNat_Int, eq_self, and_true, true_and, ite_self, true_or, or_true, false_or, or_false, and_false, false_and, not_true_eq_false, not_false_eq_true, if_true, if_false]
        exact go
      · simp (disch := first | assumption | omega) only [rn, wk, al, wr_e, td_e, tm_e, mset_eq, mset_ne, if_pos, if_neg, Int.reduceAdd, Int.reduceSub, Int.reduceMul, Int.reduceNeg, Int.reduceLT, Int.reduceLE, Int.reduceEq, Int.cast_ofNat_Int, eq_self, and_true, true_and, ite_self, true_or, or_true, false_or, or_false, and_false, false_and, not_true_eq_false, not_false_eq_true, if_true, if_false]
        exact go
theorem lp_mo1 (d : Nat) (A s : Mem) (hK : KA A) (hR : KR A s) (hD : ∀ w, 0 ≤ w ∧ w < A 0 2 → ∃ D, Fpost A w 1000 10000000 D) (k : Int) (Q : Int → Mem → Prop) (q0 : ∀ u, Ff s u → (∀ j, 0 ≤ j ∧ j < 90 * A 0 2 → Hj A j → cnt A j ≠ k) → Q (if k < 0 then cnt A (90 * A 0 2) else -1) u) (q1 : ∀ u j, Ff s u → (0 ≤ j ∧ j < 90 * A 0 2) → Hj A j → cnt A j = k → Q (1000 * (j / 90) + 10 * (1 + j % 90 / 10) + j % 10) u) : ∀ (n : Nat) (w : Int) (u : Mem) (y1 y2 y3 y4 y5 : Int), 0 ≤ w → w + n = A 0 2 → Ff s u → (∀ j, 0 ≤ j ∧ j < 90 * w → Hj A j → cnt A j ≠ k) → EV (d + 6) o_R_movedOf 4 [] [137, k, cnt A (90 * w), w, y1, y2, y3, y4, y5] u Q := by
  have hK' := hK
  obtain ⟨hc, hw, hvs, hvl, hvn, hk, hr⟩ := hK'
  have hcc := hc
  unfold VC at hcc
  have rc := hR.1
  have rw_ := hR.2.1
  intro n
  induction n with
  | zero =>
    intro w u y1 y2 y3 y4 y5 h0 hn hf hN
    have ew : w = A 0 2 := by omega
    subst ew
    have g1 : u 138 1 = A 0 2 := by rw [Ff_cell hf (by omega) (by omega) (by omega)]; exact rc.2.1
    have hq := q0 u hf hN
    rw [e_R_movedOf_4]
    by_cases ck : k < 0
    · rw [if_pos ck] at hq
      simp (disch := first | assumption | omega) only [rn, wk, al, wr_e, td_e, tm_e, mset_eq, mset_ne, if_pos, if_neg, Int.reduceAdd, Int.reduceSub, Int.reduceMul, Int.reduceNeg, Int.reduceLT, Int.reduceLE, Int.reduceEq, Int.cast_ofNat_Int, eq_self, and_true, true_and, ite_self, true_or, or_true, false_or, or_false, and_false, false_and, not_true_eq_false, not_false_eq_true, if_true, if_false, e_R_movedOf_0, e_R_movedOf_86, e_R_movedOf_126, e_R_movedOf_155, e_R_movedOf_158, e_R_movedOf_164, e_R_movedOf_195, e_R_movedOf_201, e_R_movedOf_209, e_R_movedOf_210, g1]
      exact hq
    · rw [if_neg ck] at hq
      simp (disch := first | assumption | omega) only [rn, wk, al, wr_e, td_e, tm_e, mset_eq, mset_ne, if_pos, if_neg, Int.reduceAdd, Int.reduceSub, Int.reduceMul, Int.reduceNeg, Int.reduceLT, Int.reduceLE, Int.reduceEq, Int.cast_ofNat_Int, eq_self, and_true, true_and, ite_self, true_or, or_true, false_or, or_false, and_false, false_and, not_true_eq_false, not_false_eq_true, if_true, if_false, e_R_movedOf_0, e_R_movedOf_86, e_R_movedOf_126, e_R_movedOf_155, e_R_movedOf_158, e_R_movedOf_164, e_R_movedOf_195, e_R_movedOf_201, e_R_movedOf_209, e_R_movedOf_210, g1]
      exact hq
  | succ n ih =>
    intro w u y1 y2 y3 y4 y5 h0 hn hf hN
    obtain ⟨D, hDw⟩ := hD w (by omega)
    have e138 : ∀ i, u 138 i = s 138 i := fun i => by rw [Ff_cell hf (by omega) (by omega) (by omega)]
    have g1 : u 138 1 = A 0 2 := by rw [e138]; exact rc.2.1
    have q := rw_ w (by omega)
    have hv := hw w (by omega)
    have e2 : 10 + 4 * w + 2 = 12 + 4 * w := by omega
    have e3 : 10 + 4 * w + 3 = 13 + 4 * w := by omega
    have g2 : u 138 (12 + 4 * w) = A 3 w := by rw [e138]; exact q.2.2.1
    have g3 : u 138 (13 + 4 * w) = A 4 w := by rw [e138]; exact q.2.2.2
    rw [e_R_movedOf_4]
    simp (disch := first | assumption | omega) only [rn, wk, al, wr_e, td_e, tm_e, mset_eq, mset_ne, if_pos, if_neg, Int.reduceAdd, Int.reduceSub, Int.reduceMul, Int.reduceNeg, Int.reduceLT, Int.reduceLE, Int.reduceEq, Int.cast_ofNat_Int, eq_self, and_true, true_and, ite_self, true_or, or_true, false_or, or_false, and_false, false_and, not_true_eq_false, not_false_eq_true, if_true, if_false, g1, q_wayRow, e2, e3, g2, g3]
    have hx := lp_mo2 d A s hK hR D w k (by omega) hDw Q ?_ 90 0 u (by omega) (by omega) (fun c i a b e _ => hf c i a b e) (fun j hj => hN j (by omega))
    · rw [Int.add_zero] at hx; exact hx
    · intro t z1 many found ht hcase
      have hft : Ff s (mset (mset t 138 (12 + 4 * w) (A 3 w)) 138 (13 + 4 * w) (A 4 w)) := by
        intro c i a b e
        by_cases c1 : c = 138 ∧ i = 13 + 4 * w
        · rw [mset_eq c1.1 c1.2, c1.1, c1.2, q.2.2.2]
        · rw [mset_ne c1]
          by_cases c2 : c = 138 ∧ i = 12 + 4 * w
          · rw [mset_eq c2.1 c2.2, c2.1, c2.2, q.2.2.1]
          · rw [mset_ne c2]; exact ht c i a b e (by omega)
      rcases hcase with ⟨rfl, rfl, hN'⟩ | ⟨h0', j, hj, hH, hcj, hfd⟩
      · have hx := ih (w + 1) _ (10 + 4 * w) (A 3 w) (A 4 w) (-1) z1 (by omega) (by omega) hft hN'
        rw [e_R_movedOf_164]
        simp (disch := first | assumption | omega) only [rn, wk, al, wr_e, td_e, tm_e, mset_eq, mset_ne, if_pos, if_neg, Int.reduceAdd, Int.reduceSub, Int.reduceMul, Int.reduceNeg, Int.reduceLT, Int.reduceLE, Int.reduceEq, Int.cast_ofNat_Int, eq_self, and_true, true_and, ite_self, true_or, or_true, false_or, or_false, and_false, false_and, not_true_eq_false, not_false_eq_true, if_true, if_false, e_R_movedOf_0, e_R_movedOf_86, e_R_movedOf_126, e_R_movedOf_155, e_R_movedOf_158, e_R_movedOf_164, e_R_movedOf_195, e_R_movedOf_201, e_R_movedOf_209, e_R_movedOf_210, e2, e3]
        exact hx
      · have hq := q1 _ j hft (by omega) hH hcj
        rw [← hfd] at hq
        rw [e_R_movedOf_164]
        simp (disch := first | assumption | omega) only [rn, wk, al, wr_e, td_e, tm_e, mset_eq, mset_ne, if_pos, if_neg, Int.reduceAdd, Int.reduceSub, Int.reduceMul, Int.reduceNeg, Int.reduceLT, Int.reduceLE, Int.reduceEq, Int.cast_ofNat_Int, eq_self, and_true, true_and, ite_self, true_or, or_true, false_or, or_false, and_false, false_and, not_true_eq_false, not_false_eq_true, if_true, if_false, e2, e3]
        exact hq
theorem q_movedOf (d : Nat) (A s : Mem) (hK : KA A) (hR : KR A s) (hD : ∀ w, 0 ≤ w ∧ w < A 0 2 → ∃ D, Fpost A w 1000 10000000 D) (k : Int) : CV (d + 7) 337 [137, k] s fun r u => Ff s u ∧ ((r = (if k < 0 then cnt A (90 * A 0 2) else -1) ∧ ∀ j, 0 ≤ j ∧ j < 90 * A 0 2 → Hj A j → cnt A j ≠ k) ∨ ∃ j, (0 ≤ j ∧ j < 90 * A 0 2) ∧ Hj A j ∧ cnt A j = k ∧ r = 1000 * (j / 90) + 10 * (1 + j % 90 / 10) + j % 10) := by
  have hcc := hK.1
  unfold VC at hcc
  apply c_R_movedOf
  simp (disch := first | assumption | omega) only [rn, wk, al, wr_e, td_e, tm_e, mset_eq, mset_ne, if_pos, if_neg, Int.reduceAdd, Int.reduceSub, Int.reduceMul, Int.reduceNeg, Int.reduceLT, Int.reduceLE, Int.reduceEq, Int.cast_ofNat_Int, eq_self, and_true, true_and, ite_self, true_or, or_true, false_or, or_false, and_false, false_and, not_true_eq_false, not_false_eq_true, if_true, if_false, e_R_movedOf_0, e_R_movedOf_86, e_R_movedOf_126, e_R_movedOf_155, e_R_movedOf_158, e_R_movedOf_164, e_R_movedOf_195, e_R_movedOf_201, e_R_movedOf_209, e_R_movedOf_210]
  have c0 : cnt A 0 = 0 := rfl
  have hx := lp_mo1 d A s hK hR hD k (fun r u => Ff s u ∧ ((r = (if k < 0 then cnt A (90 * A 0 2) else -1) ∧ ∀ j, 0 ≤ j ∧ j < 90 * A 0 2 → Hj A j → cnt A j ≠ k) ∨ ∃ j, (0 ≤ j ∧ j < 90 * A 0 2) ∧ Hj A j ∧ cnt A j = k ∧ r = 1000 * (j / 90) + 10 * (1 + j % 90 / 10) + j % 10)) (fun u a b => ⟨a, Or.inl ⟨rfl, b⟩⟩) (fun u j a b c e => ⟨a, Or.inr ⟨j, b, c, e, rfl⟩⟩) (A 0 2).toNat 0 s 0 0 0 0 0 (by omega) (by omega) (fun _ _ _ _ _ => rfl) (fun j hj => by omega)
  rw [show (90 : Int) * 0 = 0 from rfl, c0] at hx
  exact hx
theorem ka_of {s : Mem} (hi : Inv s) (h6 : s 37 6 = 1) : KA (win s 37) ∧ KR (win s 37) s := by
  have hH := hi.2.2.2.2.1
  have hv := hH.1
  have hu := inv_vu hi h6
  have hru := inv_ru hi h6
  refine ⟨⟨hv.1, hv.2.1, hv.2.2.1, hv.2.2.2.1, hv.2.2.2.2.2.1, vKs_of hH, fun j hj => ?_⟩, hH.2.1, hH.2.2.1, hH.2.2.2.1, hH.2.2.2.2.1, hH.2.2.2.2.2.1, fun x b hx hb => hru x b hx hb, fun x b hx hb => ?_⟩
  · have := (hu (j % 4) (j / 4) (by omega) (by omega)).1
    rw [show 4 * (j / 4) + j % 4 = j by omega] at this
    exact this
  · have hc := inv_c hi
    have hx' : s 37 3 ≤ x ∧ x < 4 := hx
    exact (hu x b (by omega) hb).2 hx'.1
theorem inv_mv {s v t u : Mem} (p : Int) (hi : Inv s) (hv : Fmv s v) (ht : t = mset v 0 0 p) (hu : Ff t u) : Inv (mset u 137 2 p) := by
  subst ht
  refine inv_scr p hi ?_ ?_
  · intro c i h
    unfold Rv at h
    rw [hu c i (by omega) (by omega) (by omega), mset_ne (by omega), hv c i (by omega)]
  · rw [hu _ _ (by omega) (by omega) (by omega), mset_eq rfl rfl]
theorem KR_congr {A s t : Mem} (h : t 138 = s 138) (hR : KR A s) : KR A t := by unfold KR at hR ⊢; rw [h]; exact hR
theorem ak_moved (d : Nat) : Ak (d + 30) 161 336 [] := by
  apply ak_of; intro s hi
  have hc := inv_c hi
  have hr := inv_rc hi
  by_cases c6 : s 37 6 = 1
  · obtain ⟨hK, hR⟩ := ka_of hi c6
    apply c_M_moved
    simp (disch := first | assumption | omega) only [rn, wk, al, wr_e, td_e, tm_e, mset_eq, mset_ne, if_pos, if_neg, Int.reduceAdd, Int.reduceSub, Int.reduceMul, Int.reduceNeg, Int.reduceLT, Int.reduceLE, Int.reduceEq, Int.cast_ofNat_Int, eq_self, and_true, true_and, ite_self, true_or, or_true, false_or, or_false, and_false, false_and, not_true_eq_false, not_false_eq_true, if_true, if_false, e_M_moved_0]
    rw [e_M_moved_17]
    simp (disch := first | assumption | omega) only [rn, wk, al, wr_e, td_e, tm_e, mset_eq, mset_ne, if_pos, if_neg, Int.reduceAdd, Int.reduceSub, Int.reduceMul, Int.reduceNeg, Int.reduceLT, Int.reduceLE, Int.reduceEq, Int.cast_ofNat_Int, eq_self, and_true, true_and, ite_self, true_or, or_true, false_or, or_false, and_false, false_and, not_true_eq_false, not_false_eq_true, if_true, if_false]
    refine EV_call (CV_mono (q_find _ (win s 37) s rfl hK (-1)) ?_)
    rintro r v ⟨v1, v2, v3⟩
    simp (disch := first | assumption | omega) only [rn, wk, al, wr_e, td_e, tm_e, mset_eq, mset_ne, if_pos, if_neg, Int.reduceAdd, Int.reduceSub, Int.reduceMul, Int.reduceNeg, Int.reduceLT, Int.reduceLE, Int.reduceEq, Int.cast_ofNat_Int, eq_self, and_true, true_and, ite_self, true_or, or_true, false_or, or_false, and_false, false_and, not_true_eq_false, not_false_eq_true, if_true, if_false, q_pass, v2.1]
    have e138 : mset v 0 0 0 138 = s 138 := by rw [mset_nc (by omega)]; funext i; exact v1 _ _ (by omega)
    have g6 : v 138 6 = s 37 6 := by rw [v1 _ _ (by omega)]; omega
    apply c_R_moved
    simp (disch := first | assumption | omega) only [rn, wk, al, wr_e, td_e, tm_e, mset_eq, mset_ne, if_pos, if_neg, Int.reduceAdd, Int.reduceSub, Int.reduceMul, Int.reduceNeg, Int.reduceLT, Int.reduceLE, Int.reduceEq, Int.cast_ofNat_Int, eq_self, and_true, true_and, ite_self, true_or, or_true, false_or, or_false, and_false, false_and, not_true_eq_false, not_false_eq_true, if_true, if_false, e_R_moved_0, e_R_moved_28, g6]
    rw [e_R_moved_19]
    simp (disch := first | assumption | omega) only [rn, wk, al, wr_e, td_e, tm_e, mset_eq, mset_ne, if_pos, if_neg, Int.reduceAdd, Int.reduceSub, Int.reduceMul, Int.reduceNeg, Int.reduceLT, Int.reduceLE, Int.reduceEq, Int.cast_ofNat_Int, eq_self, and_true, true_and, ite_self, true_or, or_true, false_or, or_false, and_false, false_and, not_true_eq_false, not_false_eq_true, if_true, if_false]
    refine EV_call (CV_mono (q_movedOf _ (win s 37) _ hK (KR_congr e138 hR) v3 (-1)) ?_)
    rintro r' u ⟨u1, hu⟩
    have er : r' = cnt (win s 37) (90 * win s 37 0 2) := by
      rcases hu with ⟨h1, -⟩ | ⟨j, h1, h2, h3, h4⟩
      · rw [h1, if_pos (by omega)]
      · have := cnt_b (A := win s 37) (j := j) h1.1
        omega
    subst er
    simp (disch := first | assumption | omega) only [rn, wk, al, wr_e, td_e, tm_e, mset_eq, mset_ne, if_pos, if_neg, Int.reduceAdd, Int.reduceSub, Int.reduceMul, Int.reduceNeg, Int.reduceLT, Int.reduceLE, Int.reduceEq, Int.cast_ofNat_Int, eq_self, and_true, true_and, ite_self, true_or, or_true, false_or, or_false, and_false, false_and, not_true_eq_false, not_false_eq_true, if_true, if_false, e_R_moved_0, e_R_moved_19, e_R_moved_28, q_gives]
    exact inv_mv 0 hi v1 rfl u1
  · apply c_M_moved
    simp (disch := first | assumption | omega) only [rn, wk, al, wr_e, td_e, tm_e, mset_eq, mset_ne, if_pos, if_neg, Int.reduceAdd, Int.reduceSub, Int.reduceMul, Int.reduceNeg, Int.reduceLT, Int.reduceLE, Int.reduceEq, Int.cast_ofNat_Int, eq_self, and_true, true_and, ite_self, true_or, or_true, false_or, or_false, and_false, false_and, not_true_eq_false, not_false_eq_true, if_true, if_false, e_M_moved_0, e_M_moved_17, q_fail]
    apply c_R_moved
    simp (disch := first | assumption | omega) only [rn, wk, al, wr_e, td_e, tm_e, mset_eq, mset_ne, if_pos, if_neg, Int.reduceAdd, Int.reduceSub, Int.reduceMul, Int.reduceNeg, Int.reduceLT, Int.reduceLE, Int.reduceEq, Int.cast_ofNat_Int, eq_self, and_true, true_and, ite_self, true_or, or_true, false_or, or_false, and_false, false_and, not_true_eq_false, not_false_eq_true, if_true, if_false, e_R_moved_0, e_R_moved_19, e_R_moved_28, q_refuse]
    exact inv_st 6 hi
theorem ak_movedAt (d : Nat) (k q : Int) : Ak (d + 30) 170 338 [k, q] := by
  apply ak_of; intro s hi
  have hc := inv_c hi
  have hr := inv_rc hi
  by_cases c1 : 0 ≤ k ∧ 0 ≤ q ∧ q ≤ 2
  · by_cases c6 : s 37 6 = 1
    · obtain ⟨hK, hR⟩ := ka_of hi c6
      have N0 : 0 ≤ 90 * s 37 2 := by omega
      apply c_M_movedAt
      simp (disch := first | assumption | omega) only [rn, wk, al, wr_e, td_e, tm_e, mset_eq, mset_ne, if_pos, if_neg, Int.reduceAdd, Int.reduceSub, Int.reduceMul, Int.reduceNeg, Int.reduceLT, Int.reduceLE, Int.reduceEq, Int.cast_ofNat_Int, eq_self, and_true, true_and, ite_self, true_or, or_true, false_or, or_false, and_false, false_and, not_true_eq_false, not_false_eq_true, if_true, if_false, e_M_movedAt_0, e_M_movedAt_13, e_M_movedAt_19, e_M_movedAt_66, e_M_movedAt_82, e_M_movedAt_98, e_M_movedAt_105]
      rw [e_M_movedAt_36]
      simp (disch := first | assumption | omega) only [rn, wk, al, wr_e, td_e, tm_e, mset_eq, mset_ne, if_pos, if_neg, Int.reduceAdd, Int.reduceSub, Int.reduceMul, Int.reduceNeg, Int.reduceLT, Int.reduceLE, Int.reduceEq, Int.cast_ofNat_Int, eq_self, and_true, true_and, ite_self, true_or, or_true, false_or, or_false, and_false, false_and, not_true_eq_false, not_false_eq_true, if_true, if_false]
      refine EV_call (CV_mono (q_find _ (win s 37) s rfl hK k) ?_)
      rintro r v ⟨v1, ⟨v2, v2'⟩, v3⟩
      have v2 : v 24 0 = cnt (win s 37) (90 * s 37 2) := v2
      have e138 : ∀ p, mset v 0 0 p 138 = s 138 := fun p => by rw [mset_nc (by omega)]; funext i; exact v1 _ _ (by omega)
      have g6 : v 138 6 = s 37 6 := by rw [v1 _ _ (by omega)]; omega
      have hRun : ∀ (p : Int) (Q : Int → Mem → Prop), (∀ u, Ff (mset v 0 0 p) u → ((∀ j, 0 ≤ j ∧ j < 90 * s 37 2 → Hj (win s 37) j → cnt (win s 37) j ≠ k) → Q (-1) (mset u 137 2 6)) ∧ (∀ j, 0 ≤ j ∧ j < 90 * s 37 2 → Hj (win s 37) j → cnt (win s 37) j = k → Q (if q = 0 then j / 90 else if q = 1 then 1 + j % 90 / 10 else j % 10) (mset u 137 2 0))) → CV (d + 30) 338 [137, k, q] (mset v 0 0 p) Q := by
        intro p Q hQ
        apply c_R_movedAt
        simp (disch := first | assumption | omega) only [rn, wk, al, wr_e, td_e, tm_e, mset_eq, mset_ne, if_pos, if_neg, Int.reduceAdd, Int.reduceSub, Int.reduceMul, Int.reduceNeg, Int.reduceLT, Int.reduceLE, Int.reduceEq, Int.cast_ofNat_Int, eq_self, and_true, true_and, ite_self, true_or, or_true, false_or, or_false, and_false, false_and, not_true_eq_false, not_false_eq_true, if_true, if_false, e_R_movedAt_0, e_R_movedAt_13, e_R_movedAt_19, e_R_movedAt_33, e_R_movedAt_51, e_R_movedAt_64, e_R_movedAt_80, e_R_movedAt_84, g6]
        refine EV_call (CV_mono (q_movedOf _ (win s 37) _ hK (KR_congr (e138 p) hR) v3 k) ?_)
        rintro r' u ⟨u1, hu⟩
        obtain ⟨k1, k2⟩ := hQ u u1
        rcases hu with ⟨h1, h2⟩ | ⟨j, h1, h2, h3, h4⟩
        · rw [if_neg (by omega)] at h1
          subst h1
          have hx := k1 h2
          simp (disch := first | assumption | omega) only [rn, wk, al, wr_e, td_e, tm_e, mset_eq, mset_ne, if_pos, if_neg, Int.reduceAdd, Int.reduceSub, Int.reduceMul, Int.reduceNeg, Int.reduceLT, Int.reduceLE, Int.reduceEq, Int.cast_ofNat_Int, eq_self, and_true, true_and, ite_self, true_or, or_true, false_or, or_false, and_false, false_and, not_true_eq_false, not_false_eq_true, if_true, if_false, e_R_movedAt_0, e_R_movedAt_13, e_R_movedAt_19, e_R_movedAt_33, e_R_movedAt_38, e_R_movedAt_51, e_R_movedAt_64, e_R_movedAt_80, e_R_movedAt_84, q_refuse]
          exact hx
        · have h1' : 0 ≤ j ∧ j < 90 * s 37 2 := h1
          have hx := k2 j h1' h2 h3
          subst h4
          have e1 : (1000 * (j / 90) + 10 * (1 + j % 90 / 10) + j % 10) / 1000 = j / 90 := by omega
          have e2 : (1000 * (j / 90) + 10 * (1 + j % 90 / 10) + j % 10) % 1000 / 10 = 1 + j % 90 / 10 := by omega
          have e3 : (1000 * (j / 90) + 10 * (1 + j % 90 / 10) + j % 10) % 10 = j % 10 := by omega
          obtain rfl | rfl | rfl : q = 0 ∨ q = 1 ∨ q = 2 := by omega
          · simp (disch := first | assumption | omega) only [rn, wk, al, wr_e, td_e, tm_e, mset_eq, mset_ne, if_pos, if_neg, Int.reduceAdd, Int.reduceSub, Int.reduceMul, Int.reduceNeg, Int.reduceLT, Int.reduceLE, Int.reduceEq, Int.cast_ofNat_Int, eq_self, and_true, true_and, ite_self, true_or, or_true, false_or, or_false, and_false, false_and, not_true_eq_false, not_false_eq_true, if_true, if_false, e_R_movedAt_0, e_R_movedAt_13, e_R_movedAt_19, e_R_movedAt_33, e_R_movedAt_38, e_R_movedAt_51, e_R_movedAt_64, e_R_movedAt_80, e_R_movedAt_84, q_gives, e1]
            exact hx
          · simp (disch := first | assumption | omega) only [rn, wk, al, wr_e, td_e, tm_e, mset_eq, mset_ne, if_pos, if_neg, Int.reduceAdd, Int.reduceSub, Int.reduceMul, Int.reduceNeg, Int.reduceLT, Int.reduceLE, Int.reduceEq, Int.cast_ofNat_Int, eq_self, and_true, true_and, ite_self, true_or, or_true, false_or, or_false, and_false, false_and, not_true_eq_false, not_false_eq_true, if_true, if_false, e_R_movedAt_0, e_R_movedAt_13, e_R_movedAt_19, e_R_movedAt_33, e_R_movedAt_38, e_R_movedAt_51, e_R_movedAt_64, e_R_movedAt_80, e_R_movedAt_84, q_gives, e2]
            exact hx
          · simp (disch := first | assumption | omega) only [rn, wk, al, wr_e, td_e, tm_e, mset_eq, mset_ne, if_pos, if_neg, Int.reduceAdd, Int.reduceSub, Int.reduceMul, Int.reduceNeg, Int.reduceLT, Int.reduceLE, Int.reduceEq, Int.cast_ofNat_Int, eq_self, and_true, true_and, ite_self, true_or, or_true, false_or, or_false, and_false, false_and, not_true_eq_false, not_false_eq_true, if_true, if_false, e_R_movedAt_0, e_R_movedAt_13, e_R_movedAt_19, e_R_movedAt_33, e_R_movedAt_38, e_R_movedAt_51, e_R_movedAt_64, e_R_movedAt_80, e_R_movedAt_84, q_gives, e3]
            exact hx
      by_cases ck : cnt (win s 37) (90 * s 37 2) ≤ k
      · have hF := hRun 6 (fun r' u => r' = -1 ∧ Inv u) (fun u u1 => ⟨fun _ => ⟨rfl, inv_mv 6 hi v1 rfl u1⟩, fun j hj hH hcj => by
          have := cnt_lt (A := win s 37) (i := j) (j := 90 * s 37 2) hj.1 hj.2 hH
          omega⟩)
        simp (disch := first | assumption | omega) only [rn, wk, al, wr_e, td_e, tm_e, mset_eq, mset_ne, if_pos, if_neg, Int.reduceAdd, Int.reduceSub, Int.reduceMul, Int.reduceNeg, Int.reduceLT, Int.reduceLE, Int.reduceEq, Int.cast_ofNat_Int, eq_self, and_true, true_and, ite_self, true_or, or_true, false_or, or_false, and_false, false_and, not_true_eq_false, not_false_eq_true, if_true, if_false, e_M_movedAt_0, e_M_movedAt_13, e_M_movedAt_19, e_M_movedAt_36, e_M_movedAt_66, e_M_movedAt_82, e_M_movedAt_98, e_M_movedAt_105, v2, q_fail]
        exact hF
      · have hex : ∃ j, (0 ≤ j ∧ j < 90 * s 37 2) ∧ Hj (win s 37) j ∧ cnt (win s 37) j = k := by
          have key : ∀ (n : Nat), k < cnt (win s 37) n → ∃ j, (0 ≤ j ∧ j < (n : Int)) ∧ Hj (win s 37) j ∧ cnt (win s 37) j = k := by
            intro n
            induction n with
            | zero => intro h; have : cnt (win s 37) ((0 : Nat) : Int) = 0 := rfl; omega
            | succ n ih =>
              intro h
              have hs := cnt_s (A := win s 37) (j := (n : Int)) (by omega)
              rw [show ((n + 1 : Nat) : Int) = (n : Int) + 1 by omega] at h ⊢
              by_cases cl : k < cnt (win s 37) n
              · obtain ⟨j, a, b, c⟩ := ih cl
                exact ⟨j, by omega, b, c⟩
              · by_cases hh : Hj (win s 37) n
                · rw [ind_1 hh] at hs
                  exact ⟨n, by omega, hh, by omega⟩
                · rw [ind_0 hh] at hs
                  omega
          obtain ⟨N, hN⟩ : ∃ N : Nat, (N : Int) = 90 * s 37 2 := ⟨(90 * s 37 2).toNat, by omega⟩
          have := key N (by rw [hN]; omega)
          rw [hN] at this
          exact this
        obtain ⟨j, hj, hH, hcj⟩ := hex
        obtain ⟨w1, w2, w3⟩ := v2' j hj hH hcj
        have uniq : ∀ j', 0 ≤ j' ∧ j' < 90 * s 37 2 → Hj (win s 37) j' → cnt (win s 37) j' = k → j' = j := by
          intro j' hj' hH' hc'
          by_cases a : j' < j
          · have := cnt_lt (A := win s 37) (i := j') (j := j) hj'.1 a hH'; omega
          · by_cases b : j < j'
            · have := cnt_lt (A := win s 37) (i := j) (j := j') hj.1 b hH; omega
            · omega
        have hF := hRun 0 (fun r' u => r' = (if q = 0 then j / 90 else if q = 1 then 1 + j % 90 / 10 else j % 10) ∧ Inv u) (fun u u1 => ⟨fun hn => absurd hcj (hn j hj hH), fun j' hj' hH' hc' => by
          rw [uniq j' hj' hH' hc']
          exact ⟨rfl, inv_mv 0 hi v1 rfl u1⟩⟩)
        obtain rfl | rfl | rfl : q = 0 ∨ q = 1 ∨ q = 2 := by omega
        · simp (disch := first | assumption | omega) only [rn, wk, al, wr_e, td_e, tm_e, mset_eq, mset_ne, if_pos, if_neg, Int.reduceAdd, Int.reduceSub, Int.reduceMul, Int.reduceNeg, Int.reduceLT, Int.reduceLE, Int.reduceEq, Int.cast_ofNat_Int, eq_self, and_true, true_and, ite_self, true_or, or_true, false_or, or_false, and_false, false_and, not_true_eq_false, not_false_eq_true, if_true, if_false, e_M_movedAt_0, e_M_movedAt_13, e_M_movedAt_19, e_M_movedAt_36, e_M_movedAt_66, e_M_movedAt_82, e_M_movedAt_98, e_M_movedAt_105, v2, q_pass, w1]
          exact hF
        · simp (disch := first | assumption | omega) only [rn, wk, al, wr_e, td_e, tm_e, mset_eq, mset_ne, if_pos, if_neg, Int.reduceAdd, Int.reduceSub, Int.reduceMul, Int.reduceNeg, Int.reduceLT, Int.reduceLE, Int.reduceEq, Int.cast_ofNat_Int, eq_self, and_true, true_and, ite_self, true_or, or_true, false_or, or_false, and_false, false_and, not_true_eq_false, not_false_eq_true, if_true, if_false, e_M_movedAt_0, e_M_movedAt_13, e_M_movedAt_19, e_M_movedAt_36, e_M_movedAt_66, e_M_movedAt_82, e_M_movedAt_98, e_M_movedAt_105, v2, q_pass, w2]
          exact hF
        · simp (disch := first | assumption | omega) only [rn, wk, al, wr_e, td_e, tm_e, mset_eq, mset_ne, if_pos, if_neg, Int.reduceAdd, Int.reduceSub, Int.reduceMul, Int.reduceNeg, Int.reduceLT, Int.reduceLE, Int.reduceEq, Int.cast_ofNat_Int, eq_self, and_true, true_and, ite_self, true_or, or_true, false_or, or_false, and_false, false_and, not_true_eq_false, not_false_eq_true, if_true, if_false, e_M_movedAt_0, e_M_movedAt_13, e_M_movedAt_19, e_M_movedAt_36, e_M_movedAt_66, e_M_movedAt_82, e_M_movedAt_98, e_M_movedAt_105, v2, q_pass, w3]
          exact hF
    · apply c_M_movedAt
      simp (disch := first | assumption | omega) only [rn, wk, al, wr_e, td_e, tm_e, mset_eq, mset_ne, if_pos, if_neg, Int.reduceAdd, Int.reduceSub, Int.reduceMul, Int.reduceNeg, Int.reduceLT, Int.reduceLE, Int.reduceEq, Int.cast_ofNat_Int, eq_self, and_true, true_and, ite_self, true_or, or_true, false_or, or_false, and_false, false_and, not_true_eq_false, not_false_eq_true, if_true, if_false, e_M_movedAt_0, e_M_movedAt_13, e_M_movedAt_19, e_M_movedAt_36, e_M_movedAt_66, e_M_movedAt_82, e_M_movedAt_98, e_M_movedAt_105, q_fail]
      apply c_R_movedAt
      simp (disch := first | assumption | omega) only [rn, wk, al, wr_e, td_e, tm_e, mset_eq, mset_ne, if_pos, if_neg, Int.reduceAdd, Int.reduceSub, Int.reduceMul, Int.reduceNeg, Int.reduceLT, Int.reduceLE, Int.reduceEq, Int.cast_ofNat_Int, eq_self, and_true, true_and, ite_self, true_or, or_true, false_or, or_false, and_false, false_and, not_true_eq_false, not_false_eq_true, if_true, if_false, e_R_movedAt_0, e_R_movedAt_13, e_R_movedAt_19, e_R_movedAt_33, e_R_movedAt_38, e_R_movedAt_51, e_R_movedAt_64, e_R_movedAt_80, e_R_movedAt_84, q_refuse]
      exact inv_st 6 hi
  · have hm : CV (d + 30) 338 [137, k, q] (mset s 0 0 1) fun r' u => r' = -1 ∧ Inv u := by
      apply c_R_movedAt
      simp (disch := first | assumption | omega) only [rn, wk, al, wr_e, td_e, tm_e, mset_eq, mset_ne, if_pos, if_neg, Int.reduceAdd, Int.reduceSub, Int.reduceMul, Int.reduceNeg, Int.reduceLT, Int.reduceLE, Int.reduceEq, Int.cast_ofNat_Int, eq_self, and_true, true_and, ite_self, true_or, or_true, false_or, or_false, and_false, false_and, not_true_eq_false, not_false_eq_true, if_true, if_false, e_R_movedAt_0, e_R_movedAt_13, e_R_movedAt_19, e_R_movedAt_33, e_R_movedAt_38, e_R_movedAt_51, e_R_movedAt_64, e_R_movedAt_80, e_R_movedAt_84, q_refuse]
      repeat' split
      all_goals first | exact inv_st 1 hi | omega
    apply c_M_movedAt
    simp (disch := first | assumption | omega) only [rn, wk, al, wr_e, td_e, tm_e, mset_eq, mset_ne, if_pos, if_neg, Int.reduceAdd, Int.reduceSub, Int.reduceMul, Int.reduceNeg, Int.reduceLT, Int.reduceLE, Int.reduceEq, Int.cast_ofNat_Int, eq_self, and_true, true_and, ite_self, true_or, or_true, false_or, or_false, and_false, false_and, not_true_eq_false, not_false_eq_true, if_true, if_false, e_M_movedAt_0, e_M_movedAt_13, e_M_movedAt_19, e_M_movedAt_36, e_M_movedAt_66, e_M_movedAt_82, e_M_movedAt_98, e_M_movedAt_105, q_fail]
    repeat' split
    all_goals first | exact hm | omega
