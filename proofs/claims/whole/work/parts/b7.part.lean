/-! ===== H2: hall, one part of both readers ===== -/
def FcO (s t : Mem) : Prop := ∀ c i, ¬ (c = 7 ∧ 3 ≤ i ∧ i ≤ 9) → ¬ (c = 9 ∧ i = 1) → ¬ (57 ≤ c ∧ c ≤ 76) → t c i = s c i
def PaP (D : Nat) (T : Int → Int) (n p : Int) (s : Mem) (r : Int) (t : Mem) : Prop := FcO s t ∧ (t 9 1 = 0 ∨ t 9 1 = 1) ∧ ((r = 1 ∧ (t 7 8 = s 7 8 ∧ t 7 9 = s 7 9) ∧ ∃ p', p < p' ∧ Cs T n p' t ∧ ∀ u0 u, RlH T n s u0 u p → CV D 234 [137] u (OkR T n t u0 p')) ∨ (r = 0 ∧ 0 < t 7 8 ∧ ∀ u0 u, RlH T n s u0 u p → CV D 234 [137] u (NoR u0 (t 7 8) (t 7 9))))
theorem PaP01 {D : Nat} {T : Int → Int} {n p : Int} {s : Mem} {r : Int} {t : Mem} (h : PaP D T n p s r t) : r = 0 ∨ r = 1 := by
  rcases h.2.2 with ⟨e, -⟩ | ⟨e, -⟩
  · exact Or.inr e
  · exact Or.inl e
theorem cOk_lt {T : Int → Int} {n p : Int} (hp : 0 ≤ p ∧ p ≤ n) (h : cOk T n p) : p < tke T n p := by
  obtain ⟨b1, b2, b3⟩ := tke_b (T := T) hp
  have hq : tkq T n p < n := by
    by_cases c : n ≤ tkq T n p
    · have := h.1
      unfold tkk at this
      rw [if_pos c] at this; omega
    · omega
  have := b3 hq
  omega
/-- behind the body of a part: the sign that closes it -/
theorem hp_151 (D : Nat) {T : Int → Int} {n p1 : Int} (hT : TX T n) {t1 t u0 w : Mem} (k : Int) (hw : RlH T n t1 u0 w p1) (hf : Fta t1 t) (ok : cOk T n p1) : EV (D + 7) o_R_hallPart 151 [] [137, k, 1] w (OkR T n t u0 (tke T n p1)) := by
  rw [e_R_hallPart_151]
  simp (disch := first | assumption | omega) only [rn, wk, al, wr_e, td_e, tm_e, mset_eq, mset_ne, if_pos, if_neg, Int.reduceAdd, Int.reduceSub, Int.reduceMul, Int.reduceNeg, Int.reduceLT, Int.reduceLE, Int.reduceEq, Int.cast_ofNat_Int, eq_self, and_true, true_and, ite_self, true_or, or_true, false_or, or_false, and_false, false_and, not_true_eq_false, not_false_eq_true, if_true, if_false]
  refine EV_call (CV_mono (r_wantSign (D + 4) hT hw.2.1) ?_)
  rintro r v (⟨e, -, f, hr⟩ | ⟨e, nok, -⟩)
  · subst e
    have hq : OkR T n t u0 (tke T n p1) 1 v := ⟨rfl, HPu_f (fun c i h => hf c i (by omega)) (fun i => f _ _ (by omega)) (fun i => f _ _ (by omega)) hw.1, hr, by rw [f _ _ (by omega), hf _ _ (by omega)]; exact hw.2.2.1, fun c i a b e => by rw [f c i (by omega)]; exact hw.2.2.2 c i a b e⟩
    simp (disch := first | assumption | omega) only [rn, wk, al, wr_e, td_e, tm_e, mset_eq, mset_ne, if_pos, if_neg, Int.reduceAdd, Int.reduceSub, Int.reduceMul, Int.reduceNeg, Int.reduceLT, Int.reduceLE, Int.reduceEq, Int.cast_ofNat_Int, eq_self, and_true, true_and, ite_self, true_or, or_true, false_or, or_false, and_false, false_and, not_true_eq_false, not_false_eq_true, if_true, if_false, e_R_hallPart_0, e_R_hallPart_17, e_R_hallPart_23, e_R_hallPart_41, e_R_hallPart_54, e_R_hallPart_92, e_R_hallPart_106, e_R_hallPart_114, e_R_hallPart_122, e_R_hallPart_130, e_R_hallPart_138, e_R_hallPart_146, e_R_hallPart_151, e_R_hallPart_168, e_R_hallPart_169]
    exact hq
  · exact absurd ok nok
theorem hp_151n (D : Nat) {T : Int → Int} {n p1 : Int} (hT : TX T n) {t1 u0 w : Mem} (k : Int) (hw : RlH T n t1 u0 w p1) (nok : ¬ cOk T n p1) : EV (D + 7) o_R_hallPart 151 [] [137, k, 1] w (NoR u0 (flt T n p1 2) (tkq T n p1)) := by
  rw [e_R_hallPart_151]
  simp (disch := first | assumption | omega) only [rn, wk, al, wr_e, td_e, tm_e, mset_eq, mset_ne, if_pos, if_neg, Int.reduceAdd, Int.reduceSub, Int.reduceMul, Int.reduceNeg, Int.reduceLT, Int.reduceLE, Int.reduceEq, Int.cast_ofNat_Int, eq_self, and_true, true_and, ite_self, true_or, or_true, false_or, or_false, and_false, false_and, not_true_eq_false, not_false_eq_true, if_true, if_false]
  refine EV_call (CV_mono (r_wantSign (D + 4) hT hw.2.1) ?_)
  rintro r v (⟨e, ok, -⟩ | ⟨e, -, f, g8, g9⟩)
  · exact absurd ok nok
  · subst e
    have hq : NoR u0 (flt T n p1 2) (tkq T n p1) 0 v := ⟨rfl, fun c i a b e => by rw [f c i (by omega)]; exact hw.2.2.2 c i a b e, g8, g9⟩
    simp (disch := first | assumption | omega) only [rn, wk, al, wr_e, td_e, tm_e, mset_eq, mset_ne, if_pos, if_neg, Int.reduceAdd, Int.reduceSub, Int.reduceMul, Int.reduceNeg, Int.reduceLT, Int.reduceLE, Int.reduceEq, Int.cast_ofNat_Int, eq_self, and_true, true_and, ite_self, true_or, or_true, false_or, or_false, and_false, false_and, not_true_eq_false, not_false_eq_true, if_true, if_false, e_R_hallPart_0, e_R_hallPart_17, e_R_hallPart_23, e_R_hallPart_41, e_R_hallPart_54, e_R_hallPart_92, e_R_hallPart_106, e_R_hallPart_114, e_R_hallPart_122, e_R_hallPart_130, e_R_hallPart_138, e_R_hallPart_146, e_R_hallPart_151, e_R_hallPart_168, e_R_hallPart_169]
    exact hq
theorem hp_0 (D : Nat) (k : Int) (w : Mem) (u0 : Mem) (a b : Int) (hw : NoR u0 a b 0 w) : EV (D + 7) o_R_hallPart 151 [] [137, k, 0] w (NoR u0 a b) := by
  rw [e_R_hallPart_151]
  simp (disch := first | assumption | omega) only [rn, wk, al, wr_e, td_e, tm_e, mset_eq, mset_ne, if_pos, if_neg, Int.reduceAdd, Int.reduceSub, Int.reduceMul, Int.reduceNeg, Int.reduceLT, Int.reduceLE, Int.reduceEq, Int.cast_ofNat_Int, eq_self, and_true, true_and, ite_self, true_or, or_true, false_or, or_false, and_false, false_and, not_true_eq_false, not_false_eq_true, if_true, if_false, e_R_hallPart_0, e_R_hallPart_17, e_R_hallPart_23, e_R_hallPart_41, e_R_hallPart_54, e_R_hallPart_92, e_R_hallPart_106, e_R_hallPart_114, e_R_hallPart_122, e_R_hallPart_130, e_R_hallPart_138, e_R_hallPart_146, e_R_hallPart_151, e_R_hallPart_168, e_R_hallPart_169]
  exact hw
theorem hp_part (D mi : Nat) {T : Int → Int} {n p : Int} (hT : TX T n) (hp : 0 ≤ p ∧ p ≤ n) {s : Mem} {r : Int} {t : Mem} (h9 : s 9 1 = 0 ∨ s 9 1 = 1) (k : Int) (disp : ∀ u0 u (G : Int → Mem → Prop), RlH T n s u0 u p → CV (D + 7) mi [137] u (fun r v => EV (D + 7) o_R_hallPart 151 [] [137, k, r] v G) → CV (D + 8) 234 [137] u G) (hx : PX (D + 7) mi T n p s r t) : PaP (D + 8) T n p s r t := by
  obtain ⟨hf, hx⟩ := hx
  refine ⟨fun c i a b e => hf c i a (by omega) e, by rw [hf _ _ (by omega) (by omega) (by omega)]; exact h9, ?_⟩
  rcases hx with ⟨e, e8, t1, p1, hA, ok, f, c, hpp⟩ | ⟨e, e8, hx⟩
  · left
    have hc0 := c.1
    have hc : 0 ≤ p1 ∧ p1 ≤ n := by
      refine ⟨by omega, ?_⟩
      by_cases c' : p1 ≤ n
      · exact c'
      · exfalso
        have h1 := (rux_ok (P := isB) (T := T) (n := n) p1).1.1
        have := ok.1
        unfold tkk at this
        rw [if_pos (by show n ≤ rux isB T n p1; omega)] at this
        omega
    have hlt := cOk_lt hc ok
    refine ⟨e, e8, tke T n p1, by omega, c, fun u0 u hu => disp u0 u _ hu (CV_mono (hA u0 u hu) ?_)⟩
    rintro r w ⟨e, hw⟩
    subst e
    exact hp_151 D hT k hw f ok
  · right
    refine ⟨e, e8, fun u0 u hu => ?_⟩
    rcases hx with hN | ⟨t1, p1, hA, nok, ⟨g8, g9⟩, -⟩
    · refine disp u0 u _ hu (CV_mono (hN u0 u hu) ?_)
      intro r w hw
      obtain ⟨e, -⟩ := id hw
      subst e
      exact hp_0 D k w u0 _ _ hw
    · refine disp u0 u _ hu (CV_mono (hA u0 u hu) ?_)
      rintro r w ⟨e, hw⟩
      subst e
      rw [g8, g9]
      exact hp_151n D hT k hw nok
theorem pm_t : pm 0 = 0 ∧ pm 1 = 1 ∧ pm 2 = 2 ∧ pm 5 = 3 ∧ pm 7 = 4 ∧ pm 8 = 5 ∧ pm 9 = 6 := ⟨rfl, rfl, rfl, rfl, rfl, rfl, rfl⟩
theorem pm_o {w : Int} (hw : 0 ≤ w ∧ w ≤ 20) (h : w = 3 ∨ w = 4 ∨ w = 6 ∨ 10 ≤ w) : 6 < pm w := by
  obtain rfl | rfl | rfl | rfl | rfl | rfl | rfl | rfl | rfl | rfl | rfl | rfl | rfl | rfl : w = 3 ∨ w = 4 ∨ w = 6 ∨ w = 10 ∨ w = 11 ∨ w = 12 ∨ w = 13 ∨ w = 14 ∨ w = 15 ∨ w = 16 ∨ w = 17 ∨ w = 18 ∨ w = 19 ∨ w = 20 := by omega
  all_goals decide
theorem x_odds (d D : Nat) {T : Int → Int} {n p : Int} (hT : TX T n) {s : Mem} (hp : 0 ≤ p ∧ p ≤ n) (hk : TkC T n p s) (hs : Cs T n (tke T n p) s) (hw : wOk T n p 0) (h9 : s 9 1 = 0 ∨ s 9 1 = 1) : CV (d + 6) 36 [9, 57] s (PaP (D + 8) T n p s) := by
  obtain ⟨p1, h1⟩ : ∃ p1, p1 = tke T n p := ⟨_, rfl⟩
  rw [← h1] at hs
  obtain ⟨tb1, tb2, tb3⟩ := tke_b (T := T) hp
  have hs1 := hs.1
  obtain ⟨ub1, ub2, -⟩ := tke_b (T := T) (n := n) (p := p1) (by omega)
  have words : ∀ u0 u, RlH T n s u0 u p → sem (D + 7) 235 [137, 0] u = some (0, u) := fun u0 u hu => by
    have q := r_words (D + 5) hT hu.2.1
    rw [if_pos hw.1, hw.2] at q
    exact q
  apply c_HallReader_readOdds
  rcases h9 with h9 | h9
  · have refn : ∀ u0 u (G : Int → Mem → Prop), RlH T n s u0 u p → (nOk T n p1 0 16 → ∀ w, (∀ c i, ¬ (c = 137 ∧ ((12 ≤ i ∧ i ≤ 15) ∨ i = 20)) → ¬ (c = 138 ∧ i = 3477) → w c i = u c i) → w 138 3477 = dvT T n p1 → w 137 20 = 1 → Rs_ T n (tke T n p1) w → EV (D + 7) o_R_hallPart 151 [] [137, 0, 1] w G) → (¬ nOk T n p1 0 16 → ∀ w, NoR u0 (flt T n p1 (nF T n p1)) (tkq T n p1) 0 w → EV (D + 7) o_R_hallPart 151 [] [137, 0, 0] w G) → CV (D + 8) 234 [137] u G := fun u0 u G hu g1 g0 => by
      have qw := words u0 u hu
      have h20 : u 137 20 = 0 := by rw [hu.2.2.1]; exact h9
      obtain ⟨v, hv⟩ : ∃ v, v = mset u 137 20 1 := ⟨_, rfl⟩
      have vf : ∀ c i, ¬ (c = 137 ∧ i = 20) → v c i = u c i := fun c i h => by rw [hv, mset_ne (by omega)]
      have hv2 : Rs_ T n p v := Rs_w (fun i _ => vf _ _ (by omega)) (fun i => vf _ _ (by omega)) hu.2.1
      have v20 : v 137 20 = 1 := by rw [hv, mset_eq rfl rfl]
      apply c_R_hallPart
      simp (disch := first | assumption | omega) only [rn, wk, al, wr_e, td_e, tm_e, mset_eq, mset_ne, if_pos, if_neg, Int.reduceAdd, Int.reduceSub, Int.reduceMul, Int.reduceNeg, Int.reduceLT, Int.reduceLE, Int.reduceEq, Int.cast_ofNat_Int, eq_self, and_true, true_and, ite_self, true_or, or_true, false_or, or_false, and_false, false_and, not_true_eq_false, not_false_eq_true, if_true, if_false, e_R_hallPart_0, e_R_hallPart_17, e_R_hallPart_23, e_R_hallPart_41, e_R_hallPart_54, e_R_hallPart_92, e_R_hallPart_106, e_R_hallPart_114, e_R_hallPart_122, e_R_hallPart_130, e_R_hallPart_138, e_R_hallPart_146, e_R_hallPart_168, e_R_hallPart_169, qw, h20, ← hv]
      refine EV_call (CV_mono (r_ahd (D + 5) hT hv2) ?_)
      rintro r w ⟨a, b⟩
      rw [← h1] at b
      simp (disch := first | assumption | omega) only [rn, wk, al, wr_e, td_e, tm_e, mset_eq, mset_ne, if_pos, if_neg, Int.reduceAdd, Int.reduceSub, Int.reduceMul, Int.reduceNeg, Int.reduceLT, Int.reduceLE, Int.reduceEq, Int.cast_ofNat_Int, eq_self, and_true, true_and, ite_self, true_or, or_true, false_or, or_false, and_false, false_and, not_true_eq_false, not_false_eq_true, if_true, if_false, e_R_hallPart_0, e_R_hallPart_17, e_R_hallPart_23, e_R_hallPart_41, e_R_hallPart_54, e_R_hallPart_92, e_R_hallPart_106, e_R_hallPart_114, e_R_hallPart_122, e_R_hallPart_130, e_R_hallPart_138, e_R_hallPart_146, e_R_hallPart_168, e_R_hallPart_169]
      refine EV_call (CV_mono (r_number (D + 4) hT b 3477 0 16 (by omega)) ?_)
      rintro r2 x (⟨e, ok, xf, xv, xr⟩ | ⟨e, nok, xf, x8, x9⟩)
      · subst e
        have hq := g1 ok x (fun c i y1 y2 => by rw [xf c i (by omega) y2, a c i (by omega)]; exact vf c i (by omega)) xv (by rw [xf _ _ (by omega) (by omega), a _ _ (by omega)]; exact v20) xr
        simp (disch := first | assumption | omega) only [rn, wk, al, wr_e, td_e, tm_e, mset_eq, mset_ne, if_pos, if_neg, Int.reduceAdd, Int.reduceSub, Int.reduceMul, Int.reduceNeg, Int.reduceLT, Int.reduceLE, Int.reduceEq, Int.cast_ofNat_Int, eq_self, and_true, true_and, ite_self, true_or, or_true, false_or, or_false, and_false, false_and, not_true_eq_false, not_false_eq_true, if_true, if_false, e_R_hallPart_0, e_R_hallPart_17, e_R_hallPart_23, e_R_hallPart_41, e_R_hallPart_54, e_R_hallPart_92, e_R_hallPart_106, e_R_hallPart_114, e_R_hallPart_122, e_R_hallPart_130, e_R_hallPart_138, e_R_hallPart_146, e_R_hallPart_168, e_R_hallPart_169]
        exact hq
      · subst e
        have hq := g0 nok x ⟨rfl, fun c i y1 y2 y3 => by rw [xf c i (by omega), a c i (by omega), vf c i (by omega)]; exact hu.2.2.2 c i y1 y2 y3, x8, x9⟩
        simp (disch := first | assumption | omega) only [rn, wk, al, wr_e, td_e, tm_e, mset_eq, mset_ne, if_pos, if_neg, Int.reduceAdd, Int.reduceSub, Int.reduceMul, Int.reduceNeg, Int.reduceLT, Int.reduceLE, Int.reduceEq, Int.cast_ofNat_Int, eq_self, and_true, true_and, ite_self, true_or, or_true, false_or, or_false, and_false, false_and, not_true_eq_false, not_false_eq_true, if_true, if_false, e_R_hallPart_0, e_R_hallPart_17, e_R_hallPart_23, e_R_hallPart_41, e_R_hallPart_54, e_R_hallPart_92, e_R_hallPart_106, e_R_hallPart_114, e_R_hallPart_122, e_R_hallPart_130, e_R_hallPart_138, e_R_hallPart_146, e_R_hallPart_168, e_R_hallPart_169]
        exact hq
    simp (disch := first | assumption | omega) only [rn, wk, al, wr_e, td_e, tm_e, mset_eq, mset_ne, if_pos, if_neg, Int.reduceAdd, Int.reduceSub, Int.reduceMul, Int.reduceNeg, Int.reduceLT, Int.reduceLE, Int.reduceEq, Int.cast_ofNat_Int, eq_self, and_true, true_and, ite_self, true_or, or_true, false_or, or_false, and_false, false_and, not_true_eq_false, not_false_eq_true, if_true, if_false, e_HallReader_readOdds_0, e_HallReader_readOdds_16, e_HallReader_readOdds_31, h9]
    refine EV_call (CV_mono (q_numberNext (d + 2) hT hs 0 16) ?_)
    rintro r t (⟨e, ok, f, k, c⟩ | ⟨e, nok, f, g8, g9⟩)
    · subst e
      have g6 : t 7 6 = dvT T n p1 := k.2.2.2.2.2.1 ok.1
      have d6 := ok.2
      obtain ⟨t1, ht1⟩ : ∃ t1, t1 = mset (mset t 9 1 1) 57 0 (dvT T n p1) := ⟨_, rfl⟩
      have t1f : ∀ c i, ¬ (c = 9 ∧ i = 1) → ¬ (c = 57 ∧ i = 0) → t1 c i = t c i := fun c i y1 y2 => by rw [ht1, mset_ne (by omega), mset_ne (by omega)]
      have t19 : t1 9 1 = 1 := by rw [ht1, mset_ne (by omega), mset_eq rfl rfl]
      have c1 : Cs T n (tke T n p1) t1 := Cs_f (fun c i h => t1f c i (by omega) (by omega)) c
      have rel : ∀ u0 u w, RlH T n s u0 u p → (∀ c i, ¬ (c = 137 ∧ ((12 ≤ i ∧ i ≤ 15) ∨ i = 20)) → ¬ (c = 138 ∧ i = 3477) → w c i = u c i) → w 138 3477 = dvT T n p1 → w 137 20 = 1 → Rs_ T n (tke T n p1) w → RlH T n t1 u0 w (tke T n p1) := fun u0 u w hu wf w7 w20 wr => by
        refine ⟨?_, wr, by rw [w20, t19], fun c i y1 y2 y3 => by rw [wf c i (by omega) (by omega)]; exact hu.2.2.2 c i y1 y2 y3⟩
        refine HP_odds (o := dvT T n p1) hu.1 d6 (fun k i hk y => ?_) ?_ (fun i y1 y2 y3 => ?_) w7 (fun i y1 y2 => ?_)
        · show t1 (57 + k) i = s (57 + k) i
          rw [t1f _ _ (by omega) (by omega)]; exact f _ _ (by omega)
        · show t1 57 0 = _
          rw [ht1, mset_eq rfl rfl]
        · exact wf _ _ (by omega) (by omega)
        · exact wf _ _ (by omega) (by omega)
      simp (disch := first | assumption | omega) only [rn, wk, al, wr_e, td_e, tm_e, mset_eq, mset_ne, if_pos, if_neg, Int.reduceAdd, Int.reduceSub, Int.reduceMul, Int.reduceNeg, Int.reduceLT, Int.reduceLE, Int.reduceEq, Int.cast_ofNat_Int, eq_self, and_true, true_and, ite_self, true_or, or_true, false_or, or_false, and_false, false_and, not_true_eq_false, not_false_eq_true, if_true, if_false, e_HallReader_readOdds_0, e_HallReader_readOdds_16, e_HallReader_readOdds_31, g6, ← ht1]
      refine EV_call (CV_mono (q_closeNext (d + 2) hT c1) ?_)
      intro r2 t2 h2
      have h01 := CkP01 h2
      have hfin : PaP (D + 8) T n p s r2 t2 := by
        rcases h2 with ⟨e, ok2, f2, -, c2⟩ | ⟨e, nok2, f2, g8, g9⟩
        · have hlt := cOk_lt c1.1 ok2
          refine ⟨fun c i y1 y2 y3 => by rw [f2 c i (by omega), t1f c i (by omega) (by omega)]; exact f c i (by omega), Or.inr (by rw [f2 _ _ (by omega)]; exact t19), Or.inl ⟨e, ⟨by rw [f2 _ _ (by omega), t1f _ _ (by omega) (by omega)]; exact f _ _ (by omega), by rw [f2 _ _ (by omega), t1f _ _ (by omega) (by omega)]; exact f _ _ (by omega)⟩, tke T n (tke T n p1), by omega, c2, fun u0 u hu => ?_⟩⟩
          exact refn u0 u _ hu (fun _ w wf w7 w20 wr => hp_151 D hT 0 (rel u0 u w hu wf w7 w20 wr) f2 ok2) (fun h => absurd ok h)
        · refine ⟨fun c i y1 y2 y3 => by rw [f2 c i y1, t1f c i (by omega) (by omega)]; exact f c i (by omega), Or.inr (by rw [f2 _ _ (by omega)]; exact t19), Or.inr ⟨e, by rw [g8]; exact flt_p (by omega), fun u0 u hu => ?_⟩⟩
          rw [g8, g9]
          exact refn u0 u _ hu (fun _ w wf w7 w20 wr => hp_151n D hT 0 (rel u0 u w hu wf w7 w20 wr) nok2) (fun h => absurd ok h)
      simp (disch := first | assumption | omega) only [rn, wk, al, wr_e, td_e, tm_e, mset_eq, mset_ne, if_pos, if_neg, Int.reduceAdd, Int.reduceSub, Int.reduceMul, Int.reduceNeg, Int.reduceLT, Int.reduceLE, Int.reduceEq, Int.cast_ofNat_Int, eq_self, and_true, true_and, ite_self, true_or, or_true, false_or, or_false, and_false, false_and, not_true_eq_false, not_false_eq_true, if_true, if_false, e_HallReader_readOdds_0, e_HallReader_readOdds_16, e_HallReader_readOdds_31]
      exact hfin
    · subst e
      have hfin : PaP (D + 8) T n p s 0 t := by
        refine ⟨fun c i y1 y2 y3 => f c i y1, Or.inl (by rw [f _ _ (by omega)]; exact h9), Or.inr ⟨rfl, by rw [g8]; exact flt_p nF_p, fun u0 u hu => ?_⟩⟩
        rw [g8, g9]
        exact refn u0 u _ hu (fun h => absurd h nok) (fun _ w hw => hp_0 D 0 w u0 _ _ hw)
      simp (disch := first | assumption | omega) only [rn, wk, al, wr_e, td_e, tm_e, mset_eq, mset_ne, if_pos, if_neg, Int.reduceAdd, Int.reduceSub, Int.reduceMul, Int.reduceNeg, Int.reduceLT, Int.reduceLE, Int.reduceEq, Int.cast_ofNat_Int, eq_self, and_true, true_and, ite_self, true_or, or_true, false_or, or_false, and_false, false_and, not_true_eq_false, not_false_eq_true, if_true, if_false, e_HallReader_readOdds_0, e_HallReader_readOdds_16, e_HallReader_readOdds_31]
      exact hfin
  · have q5 := q_Trefuse (d + 4) s 5 hk
    have hfin : PaP (D + 8) T n p s 0 (mset (mset s 7 8 (flt T n p 5)) 7 9 (tkq T n p)) := by
      have g8 : mset (mset s 7 8 (flt T n p 5)) 7 9 (tkq T n p) 7 8 = flt T n p 5 := by rw [mset_ne (by omega), mset_eq rfl rfl]
      have g9 : mset (mset s 7 8 (flt T n p 5)) 7 9 (tkq T n p) 7 9 = tkq T n p := mset_eq rfl rfl
      refine ⟨fun c i y1 y2 y3 => by rw [mset_ne (by omega), mset_ne (by omega)], Or.inr (by rw [mset_ne (by omega), mset_ne (by omega)]; exact h9), Or.inr ⟨rfl, by rw [g8]; exact flt_p (by omega), fun u0 u hu => ?_⟩⟩
      rw [g8, g9]
      have qw := words u0 u hu
      have h20 : u 137 20 = 1 := by rw [hu.2.2.1]; exact h9
      have qf := q_Rfails (D + 6) u 5 hu.2.1
      have hq : NoR u0 (flt T n p 5) (tkq T n p) 0 (mset (mset u 137 18 (flt T n p 5)) 137 17 (tkq T n p)) := NoR_f hu.2.2.2
      apply c_R_hallPart
      simp (disch := first | assumption | omega) only [rn, wk, al, wr_e, td_e, tm_e, mset_eq, mset_ne, if_pos, if_neg, Int.reduceAdd, Int.reduceSub, Int.reduceMul, Int.reduceNeg, Int.reduceLT, Int.reduceLE, Int.reduceEq, Int.cast_ofNat_Int, eq_self, and_true, true_and, ite_self, true_or, or_true, false_or, or_false, and_false, false_and, not_true_eq_false, not_false_eq_true, if_true, if_false, e_R_hallPart_0, e_R_hallPart_17, e_R_hallPart_23, e_R_hallPart_41, e_R_hallPart_54, e_R_hallPart_92, e_R_hallPart_106, e_R_hallPart_114, e_R_hallPart_122, e_R_hallPart_130, e_R_hallPart_138, e_R_hallPart_146, e_R_hallPart_151, e_R_hallPart_168, e_R_hallPart_169, qw, h20, qf]
      exact hq
    simp (disch := first | assumption | omega) only [rn, wk, al, wr_e, td_e, tm_e, mset_eq, mset_ne, if_pos, if_neg, Int.reduceAdd, Int.reduceSub, Int.reduceMul, Int.reduceNeg, Int.reduceLT, Int.reduceLE, Int.reduceEq, Int.cast_ofNat_Int, eq_self, and_true, true_and, ite_self, true_or, or_true, false_or, or_false, and_false, false_and, not_true_eq_false, not_false_eq_true, if_true, if_false, e_HallReader_readOdds_0, e_HallReader_readOdds_16, e_HallReader_readOdds_31, h9, q5]
    exact hfin
theorem rp_0 (d : Nat) (s : Mem) (w : Int) (qw : sem (d + 6) 35 [7] s = some (w, s)) (G : Int → Mem → Prop) (pc : Int) (h : (w = 0 ∧ pc = 60) ∨ (w = 1 ∧ pc = 66) ∨ (w = 2 ∧ pc = 72) ∨ (w = 5 ∧ pc = 78) ∨ (w = 7 ∧ pc = 84) ∨ (w = 8 ∧ pc = 90) ∨ (w = 9 ∧ pc = 96) ∨ (w = 3 ∧ pc = 102) ∨ (w = 4 ∧ pc = 102) ∨ (w = 6 ∧ pc = 102) ∨ ((w < 0 ∨ 9 < w) ∧ pc = 102)) (hx : EV (d + 6) o_HallReader_readPart pc [] [9, 57] s G) : EV (d + 6) o_HallReader_readPart 0 [] [9, 57] s G := by
  have hgo : EVQ (d + 6) o_HallReader_readPart (swk [(0, 60), (1, 66), (2, 72), (3, 102), (4, 102), (5, 78), (6, 102), (7, 84), (8, 90), (9, 96)] 102 w fun q => some (q, [], [9, 57], s)) G := by
    rcases h with ⟨e, e2⟩ | ⟨e, e2⟩ | ⟨e, e2⟩ | ⟨e, e2⟩ | ⟨e, e2⟩ | ⟨e, e2⟩ | ⟨e, e2⟩ | ⟨e, e2⟩ | ⟨e, e2⟩ | ⟨e, e2⟩ | ⟨e, e2⟩
    · subst e e2; exact hx
    · subst e e2; exact hx
    · subst e e2; exact hx
    · subst e e2; exact hx
    · subst e e2; exact hx
    · subst e e2; exact hx
    · subst e e2; exact hx
    · subst e e2; exact hx
    · subst e e2; exact hx
    · subst e e2; exact hx
    · subst e2
      rw [swk_c, if_neg (by omega), swk_c, if_neg (by omega), swk_c, if_neg (by omega), swk_c, if_neg (by omega), swk_c, if_neg (by omega), swk_c, if_neg (by omega), swk_c, if_neg (by omega), swk_c, if_neg (by omega), swk_c, if_neg (by omega), swk_c, if_neg (by omega), swk_n]
      exact hx
  rw [e_HallReader_readPart_0]
  show EVQ (d + 6) o_HallReader_readPart (cal (sem (d + 6) 35 [7] s) fun v t => swk [(0, 60), (1, 66), (2, 72), (3, 102), (4, 102), (5, 78), (6, 102), (7, 84), (8, 90), (9, 96)] 102 v fun q => some (q, [], [9, 57], t)) G
  rw [qw]
  exact hgo
theorem rp_60 (d : Nat) (s : Mem) (G : Int → Mem → Prop) (h : CV (d + 6) 36 [9, 57] s fun r t => (r = 0 ∨ r = 1) ∧ G r t) : EV (d + 6) o_HallReader_readPart 60 [] [9, 57] s G := by
  rw [e_HallReader_readPart_60]
  simp (disch := first | assumption | omega) only [rn, wk, al, wr_e, td_e, tm_e, mset_eq, mset_ne, if_pos, if_neg, Int.reduceAdd, Int.reduceSub, Int.reduceMul, Int.reduceNeg, Int.reduceLT, Int.reduceLE, Int.reduceEq, Int.cast_ofNat_Int, eq_self, and_true, true_and, ite_self, true_or, or_true, false_or, or_false, and_false, false_and, not_true_eq_false, not_false_eq_true, if_true, if_false]
  refine EV_call (CV_mono h ?_)
  rintro r t ⟨h01, ht⟩
  simp (disch := first | assumption | omega) only [rn, wk, al, wr_e, td_e, tm_e, mset_eq, mset_ne, if_pos, if_neg, Int.reduceAdd, Int.reduceSub, Int.reduceMul, Int.reduceNeg, Int.reduceLT, Int.reduceLE, Int.reduceEq, Int.cast_ofNat_Int, eq_self, and_true, true_and, ite_self, true_or, or_true, false_or, or_false, and_false, false_and, not_true_eq_false, not_false_eq_true, if_true, if_false]
  exact ht
theorem rp_66 (d : Nat) (s : Mem) (G : Int → Mem → Prop) (h : CV (d + 6) 42 [9, 57] s fun r t => (r = 0 ∨ r = 1) ∧ G r t) : EV (d + 6) o_HallReader_readPart 66 [] [9, 57] s G := by
  rw [e_HallReader_readPart_66]
  simp (disch := first | assumption | omega) only [rn, wk, al, wr_e, td_e, tm_e, mset_eq, mset_ne, if_pos, if_neg, Int.reduceAdd, Int.reduceSub, Int.reduceMul, Int.reduceNeg, Int.reduceLT, Int.reduceLE, Int.reduceEq, Int.cast_ofNat_Int, eq_self, and_true, true_and, ite_self, true_or, or_true, false_or, or_false, and_false, false_and, not_true_eq_false, not_false_eq_true, if_true, if_false]
  refine EV_call (CV_mono h ?_)
  rintro r t ⟨h01, ht⟩
  simp (disch := first | assumption | omega) only [rn, wk, al, wr_e, td_e, tm_e, mset_eq, mset_ne, if_pos, if_neg, Int.reduceAdd, Int.reduceSub, Int.reduceMul, Int.reduceNeg, Int.reduceLT, Int.reduceLE, Int.reduceEq, Int.cast_ofNat_Int, eq_self, and_true, true_and, ite_self, true_or, or_true, false_or, or_false, and_false, false_and, not_true_eq_false, not_false_eq_true, if_true, if_false]
  exact ht
theorem rp_72 (d : Nat) (s : Mem) (G : Int → Mem → Prop) (h : CV (d + 6) 51 [9, 57] s fun r t => (r = 0 ∨ r = 1) ∧ G r t) : EV (d + 6) o_HallReader_readPart 72 [] [9, 57] s G := by
  rw [e_HallReader_readPart_72]
  simp (disch := first | assumption | omega) only [rn, wk, al, wr_e, td_e, tm_e, mset_eq, mset_ne, if_pos, if_neg, Int.reduceAdd, Int.reduceSub, Int.reduceMul, Int.reduceNeg, Int.reduceLT, Int.reduceLE, Int.reduceEq, Int.cast_ofNat_Int, eq_self, and_true, true_and, ite_self, true_or, or_true, false_or, or_false, and_false, false_and, not_true_eq_false, not_false_eq_true, if_true, if_false]
  refine EV_call (CV_mono h ?_)
  rintro r t ⟨h01, ht⟩
  simp (disch := first | assumption | omega) only [rn, wk, al, wr_e, td_e, tm_e, mset_eq, mset_ne, if_pos, if_neg, Int.reduceAdd, Int.reduceSub, Int.reduceMul, Int.reduceNeg, Int.reduceLT, Int.reduceLE, Int.reduceEq, Int.cast_ofNat_Int, eq_self, and_true, true_and, ite_self, true_or, or_true, false_or, or_false, and_false, false_and, not_true_eq_false, not_false_eq_true, if_true, if_false]
  exact ht
theorem rp_78 (d : Nat) (s : Mem) (G : Int → Mem → Prop) (h : CV (d + 6) 55 [9, 57] s fun r t => (r = 0 ∨ r = 1) ∧ G r t) : EV (d + 6) o_HallReader_readPart 78 [] [9, 57] s G := by
  rw [e_HallReader_readPart_78]
  simp (disch := first | assumption | omega) only [rn, wk, al, wr_e, td_e, tm_e, mset_eq, mset_ne, if_pos, if_neg, Int.reduceAdd, Int.reduceSub, Int.reduceMul, Int.reduceNeg, Int.reduceLT, Int.reduceLE, Int.reduceEq, Int.cast_ofNat_Int, eq_self, and_true, true_and, ite_self, true_or, or_true, false_or, or_false, and_false, false_and, not_true_eq_false, not_false_eq_true, if_true, if_false]
  refine EV_call (CV_mono h ?_)
  rintro r t ⟨h01, ht⟩
  simp (disch := first | assumption | omega) only [rn, wk, al, wr_e, td_e, tm_e, mset_eq, mset_ne, if_pos, if_neg, Int.reduceAdd, Int.reduceSub, Int.reduceMul, Int.reduceNeg, Int.reduceLT, Int.reduceLE, Int.reduceEq, Int.cast_ofNat_Int, eq_self, and_true, true_and, ite_self, true_or, or_true, false_or, or_false, and_false, false_and, not_true_eq_false, not_false_eq_true, if_true, if_false]
  exact ht
theorem rp_84 (d : Nat) (s : Mem) (G : Int → Mem → Prop) (h : CV (d + 6) 57 [9, 57] s fun r t => (r = 0 ∨ r = 1) ∧ G r t) : EV (d + 6) o_HallReader_readPart 84 [] [9, 57] s G := by
  rw [e_HallReader_readPart_84]
  simp (disch := first | assumption | omega) only [rn, wk, al, wr_e, td_e, tm_e, mset_eq, mset_ne, if_pos, if_neg, Int.reduceAdd, Int.reduceSub, Int.reduceMul, Int.reduceNeg, Int.reduceLT, Int.reduceLE, Int.reduceEq, Int.cast_ofNat_Int, eq_self, and_true, true_and, ite_self, true_or, or_true, false_or, or_false, and_false, false_and, not_true_eq_false, not_false_eq_true, if_true, if_false]
  refine EV_call (CV_mono h ?_)
  rintro r t ⟨h01, ht⟩
  simp (disch := first | assumption | omega) only [rn, wk, al, wr_e, td_e, tm_e, mset_eq, mset_ne, if_pos, if_neg, Int.reduceAdd, Int.reduceSub, Int.reduceMul, Int.reduceNeg, Int.reduceLT, Int.reduceLE, Int.reduceEq, Int.cast_ofNat_Int, eq_self, and_true, true_and, ite_self, true_or, or_true, false_or, or_false, and_false, false_and, not_true_eq_false, not_false_eq_true, if_true, if_false]
  exact ht
theorem rp_90 (d : Nat) (s : Mem) (G : Int → Mem → Prop) (h : CV (d + 6) 59 [9, 57] s fun r t => (r = 0 ∨ r = 1) ∧ G r t) : EV (d + 6) o_HallReader_readPart 90 [] [9, 57] s G := by
  rw [e_HallReader_readPart_90]
  simp (disch := first | assumption | omega) only [rn, wk, al, wr_e, td_e, tm_e, mset_eq, mset_ne, if_pos, if_neg, Int.reduceAdd, Int.reduceSub, Int.reduceMul, Int.reduceNeg, Int.reduceLT, Int.reduceLE, Int.reduceEq, Int.cast_ofNat_Int, eq_self, and_true, true_and, ite_self, true_or, or_true, false_or, or_false, and_false, false_and, not_true_eq_false, not_false_eq_true, if_true, if_false]
  refine EV_call (CV_mono h ?_)
  rintro r t ⟨h01, ht⟩
  simp (disch := first | assumption | omega) only [rn, wk, al, wr_e, td_e, tm_e, mset_eq, mset_ne, if_pos, if_neg, Int.reduceAdd, Int.reduceSub, Int.reduceMul, Int.reduceNeg, Int.reduceLT, Int.reduceLE, Int.reduceEq, Int.cast_ofNat_Int, eq_self, and_true, true_and, ite_self, true_or, or_true, false_or, or_false, and_false, false_and, not_true_eq_false, not_false_eq_true, if_true, if_false]
  exact ht
theorem rp_96 (d : Nat) (s : Mem) (G : Int → Mem → Prop) (h : CV (d + 6) 63 [9, 57] s fun r t => (r = 0 ∨ r = 1) ∧ G r t) : EV (d + 6) o_HallReader_readPart 96 [] [9, 57] s G := by
  rw [e_HallReader_readPart_96]
  simp (disch := first | assumption | omega) only [rn, wk, al, wr_e, td_e, tm_e, mset_eq, mset_ne, if_pos, if_neg, Int.reduceAdd, Int.reduceSub, Int.reduceMul, Int.reduceNeg, Int.reduceLT, Int.reduceLE, Int.reduceEq, Int.cast_ofNat_Int, eq_self, and_true, true_and, ite_self, true_or, or_true, false_or, or_false, and_false, false_and, not_true_eq_false, not_false_eq_true, if_true, if_false]
  refine EV_call (CV_mono h ?_)
  rintro r t ⟨h01, ht⟩
  simp (disch := first | assumption | omega) only [rn, wk, al, wr_e, td_e, tm_e, mset_eq, mset_ne, if_pos, if_neg, Int.reduceAdd, Int.reduceSub, Int.reduceMul, Int.reduceNeg, Int.reduceLT, Int.reduceLE, Int.reduceEq, Int.cast_ofNat_Int, eq_self, and_true, true_and, ite_self, true_or, or_true, false_or, or_false, and_false, false_and, not_true_eq_false, not_false_eq_true, if_true, if_false]
  exact ht
theorem hp_54_1 (D : Nat) (u : Mem) (G : Int → Mem → Prop) (q : sem (D + 7) 235 [137, 0] u = some (1, u)) (h : CV (D + 7) 238 [137] u (fun r v => EV (D + 7) o_R_hallPart 151 [] [137, 1, r] v G)) : CV (D + 8) 234 [137] u G := by
  apply c_R_hallPart
  simp (disch := first | assumption | omega) only [rn, wk, al, wr_e, td_e, tm_e, mset_eq, mset_ne, if_pos, if_neg, Int.reduceAdd, Int.reduceSub, Int.reduceMul, Int.reduceNeg, Int.reduceLT, Int.reduceLE, Int.reduceEq, Int.cast_ofNat_Int, eq_self, and_true, true_and, ite_self, true_or, or_true, false_or, or_false, and_false, false_and, not_true_eq_false, not_false_eq_true, if_true, if_false, e_R_hallPart_0, e_R_hallPart_17, e_R_hallPart_23, e_R_hallPart_41, e_R_hallPart_54, e_R_hallPart_92, e_R_hallPart_106, e_R_hallPart_114, e_R_hallPart_122, e_R_hallPart_130, e_R_hallPart_138, e_R_hallPart_146, e_R_hallPart_168, e_R_hallPart_169, q]
  refine EV_call (CV_mono h ?_)
  intro r v hv
  simp (disch := first | assumption | omega) only [rn, wk, al, wr_e, td_e, tm_e, mset_eq, mset_ne, if_pos, if_neg, Int.reduceAdd, Int.reduceSub, Int.reduceMul, Int.reduceNeg, Int.reduceLT, Int.reduceLE, Int.reduceEq, Int.cast_ofNat_Int, eq_self, and_true, true_and, ite_self, true_or, or_true, false_or, or_false, and_false, false_and, not_true_eq_false, not_false_eq_true, if_true, if_false]
  exact hv
theorem hp_54_2 (D : Nat) (u : Mem) (G : Int → Mem → Prop) (q : sem (D + 7) 235 [137, 0] u = some (2, u)) (h : CV (D + 7) 245 [137] u (fun r v => EV (D + 7) o_R_hallPart 151 [] [137, 2, r] v G)) : CV (D + 8) 234 [137] u G := by
  apply c_R_hallPart
  simp (disch := first | assumption | omega) only [rn, wk, al, wr_e, td_e, tm_e, mset_eq, mset_ne, if_pos, if_neg, Int.reduceAdd, Int.reduceSub, Int.reduceMul, Int.reduceNeg, Int.reduceLT, Int.reduceLE, Int.reduceEq, Int.cast_ofNat_Int, eq_self, and_true, true_and, ite_self, true_or, or_true, false_or, or_false, and_false, false_and, not_true_eq_false, not_false_eq_true, if_true, if_false, e_R_hallPart_0, e_R_hallPart_17, e_R_hallPart_23, e_R_hallPart_41, e_R_hallPart_54, e_R_hallPart_92, e_R_hallPart_106, e_R_hallPart_114, e_R_hallPart_122, e_R_hallPart_130, e_R_hallPart_138, e_R_hallPart_146, e_R_hallPart_168, e_R_hallPart_169, q]
  refine EV_call (CV_mono h ?_)
  intro r v hv
  simp (disch := first | assumption | omega) only [rn, wk, al, wr_e, td_e, tm_e, mset_eq, mset_ne, if_pos, if_neg, Int.reduceAdd, Int.reduceSub, Int.reduceMul, Int.reduceNeg, Int.reduceLT, Int.reduceLE, Int.reduceEq, Int.cast_ofNat_Int, eq_self, and_true, true_and, ite_self, true_or, or_true, false_or, or_false, and_false, false_and, not_true_eq_false, not_false_eq_true, if_true, if_false]
  exact hv
theorem hp_54_3 (D : Nat) (u : Mem) (G : Int → Mem → Prop) (q : sem (D + 7) 235 [137, 0] u = some (3, u)) (h : CV (D + 7) 251 [137] u (fun r v => EV (D + 7) o_R_hallPart 151 [] [137, 3, r] v G)) : CV (D + 8) 234 [137] u G := by
  apply c_R_hallPart
  simp (disch := first | assumption | omega) only [rn, wk, al, wr_e, td_e, tm_e, mset_eq, mset_ne, if_pos, if_neg, Int.reduceAdd, Int.reduceSub, Int.reduceMul, Int.reduceNeg, Int.reduceLT, Int.reduceLE, Int.reduceEq, Int.cast_ofNat_Int, eq_self, and_true, true_and, ite_self, true_or, or_true, false_or, or_false, and_false, false_and, not_true_eq_false, not_false_eq_true, if_true, if_false, e_R_hallPart_0, e_R_hallPart_17, e_R_hallPart_23, e_R_hallPart_41, e_R_hallPart_54, e_R_hallPart_92, e_R_hallPart_106, e_R_hallPart_114, e_R_hallPart_122, e_R_hallPart_130, e_R_hallPart_138, e_R_hallPart_146, e_R_hallPart_168, e_R_hallPart_169, q]
  refine EV_call (CV_mono h ?_)
  intro r v hv
  simp (disch := first | assumption | omega) only [rn, wk, al, wr_e, td_e, tm_e, mset_eq, mset_ne, if_pos, if_neg, Int.reduceAdd, Int.reduceSub, Int.reduceMul, Int.reduceNeg, Int.reduceLT, Int.reduceLE, Int.reduceEq, Int.cast_ofNat_Int, eq_self, and_true, true_and, ite_self, true_or, or_true, false_or, or_false, and_false, false_and, not_true_eq_false, not_false_eq_true, if_true, if_false]
  exact hv
theorem hp_54_4 (D : Nat) (u : Mem) (G : Int → Mem → Prop) (q : sem (D + 7) 235 [137, 0] u = some (4, u)) (h : CV (D + 7) 252 [137] u (fun r v => EV (D + 7) o_R_hallPart 151 [] [137, 4, r] v G)) : CV (D + 8) 234 [137] u G := by
  apply c_R_hallPart
  simp (disch := first | assumption | omega) only [rn, wk, al, wr_e, td_e, tm_e, mset_eq, mset_ne, if_pos, if_neg, Int.reduceAdd, Int.reduceSub, Int.reduceMul, Int.reduceNeg, Int.reduceLT, Int.reduceLE, Int.reduceEq, Int.cast_ofNat_Int, eq_self, and_true, true_and, ite_self, true_or, or_true, false_or, or_false, and_false, false_and, not_true_eq_false, not_false_eq_true, if_true, if_false, e_R_hallPart_0, e_R_hallPart_17, e_R_hallPart_23, e_R_hallPart_41, e_R_hallPart_54, e_R_hallPart_92, e_R_hallPart_106, e_R_hallPart_114, e_R_hallPart_122, e_R_hallPart_130, e_R_hallPart_138, e_R_hallPart_146, e_R_hallPart_168, e_R_hallPart_169, q]
  refine EV_call (CV_mono h ?_)
  intro r v hv
  simp (disch := first | assumption | omega) only [rn, wk, al, wr_e, td_e, tm_e, mset_eq, mset_ne, if_pos, if_neg, Int.reduceAdd, Int.reduceSub, Int.reduceMul, Int.reduceNeg, Int.reduceLT, Int.reduceLE, Int.reduceEq, Int.cast_ofNat_Int, eq_self, and_true, true_and, ite_self, true_or, or_true, false_or, or_false, and_false, false_and, not_true_eq_false, not_false_eq_true, if_true, if_false]
  exact hv
theorem hp_54_5 (D : Nat) (u : Mem) (G : Int → Mem → Prop) (q : sem (D + 7) 235 [137, 0] u = some (5, u)) (h : CV (D + 7) 254 [137] u (fun r v => EV (D + 7) o_R_hallPart 151 [] [137, 5, r] v G)) : CV (D + 8) 234 [137] u G := by
  apply c_R_hallPart
  simp (disch := first | assumption | omega) only [rn, wk, al, wr_e, td_e, tm_e, mset_eq, mset_ne, if_pos, if_neg, Int.reduceAdd, Int.reduceSub, Int.reduceMul, Int.reduceNeg, Int.reduceLT, Int.reduceLE, Int.reduceEq, Int.cast_ofNat_Int, eq_self, and_true, true_and, ite_self, true_or, or_true, false_or, or_false, and_false, false_and, not_true_eq_false, not_false_eq_true, if_true, if_false, e_R_hallPart_0, e_R_hallPart_17, e_R_hallPart_23, e_R_hallPart_41, e_R_hallPart_54, e_R_hallPart_92, e_R_hallPart_106, e_R_hallPart_114, e_R_hallPart_122, e_R_hallPart_130, e_R_hallPart_138, e_R_hallPart_146, e_R_hallPart_168, e_R_hallPart_169, q]
  refine EV_call (CV_mono h ?_)
  intro r v hv
  simp (disch := first | assumption | omega) only [rn, wk, al, wr_e, td_e, tm_e, mset_eq, mset_ne, if_pos, if_neg, Int.reduceAdd, Int.reduceSub, Int.reduceMul, Int.reduceNeg, Int.reduceLT, Int.reduceLE, Int.reduceEq, Int.cast_ofNat_Int, eq_self, and_true, true_and, ite_self, true_or, or_true, false_or, or_false, and_false, false_and, not_true_eq_false, not_false_eq_true, if_true, if_false]
  exact hv
theorem hp_54_6 (D : Nat) (u : Mem) (G : Int → Mem → Prop) (q : sem (D + 7) 235 [137, 0] u = some (6, u)) (h : CV (D + 7) 256 [137] u (fun r v => EV (D + 7) o_R_hallPart 151 [] [137, 6, r] v G)) : CV (D + 8) 234 [137] u G := by
  apply c_R_hallPart
  simp (disch := first | assumption | omega) only [rn, wk, al, wr_e, td_e, tm_e, mset_eq, mset_ne, if_pos, if_neg, Int.reduceAdd, Int.reduceSub, Int.reduceMul, Int.reduceNeg, Int.reduceLT, Int.reduceLE, Int.reduceEq, Int.cast_ofNat_Int, eq_self, and_true, true_and, ite_self, true_or, or_true, false_or, or_false, and_false, false_and, not_true_eq_false, not_false_eq_true, if_true, if_false, e_R_hallPart_0, e_R_hallPart_17, e_R_hallPart_23, e_R_hallPart_41, e_R_hallPart_54, e_R_hallPart_92, e_R_hallPart_106, e_R_hallPart_114, e_R_hallPart_122, e_R_hallPart_130, e_R_hallPart_138, e_R_hallPart_146, e_R_hallPart_168, e_R_hallPart_169, q]
  refine EV_call (CV_mono h ?_)
  intro r v hv
  simp (disch := first | assumption | omega) only [rn, wk, al, wr_e, td_e, tm_e, mset_eq, mset_ne, if_pos, if_neg, Int.reduceAdd, Int.reduceSub, Int.reduceMul, Int.reduceNeg, Int.reduceLT, Int.reduceLE, Int.reduceEq, Int.cast_ofNat_Int, eq_self, and_true, true_and, ite_self, true_or, or_true, false_or, or_false, and_false, false_and, not_true_eq_false, not_false_eq_true, if_true, if_false]
  exact hv
theorem rp_bad (D : Nat) {T : Int → Int} {n p : Int} (hT : TX T n) {s : Mem} (h9 : s 9 1 = 0 ∨ s 9 1 = 1) (hb : ¬ (tkk T n p = 1 ∧ (wnT T n p = 0 ∨ wnT T n p = 1 ∨ wnT T n p = 2 ∨ wnT T n p = 5 ∨ wnT T n p = 7 ∨ wnT T n p = 8 ∨ wnT T n p = 9))) : PaP (D + 8) T n p s 0 (mset (mset s 7 8 (flt T n p 2)) 7 9 (tkq T n p)) := by
  have wb := wnT_b (T := T) (n := n) (p := p)
  have g8 : mset (mset s 7 8 (flt T n p 2)) 7 9 (tkq T n p) 7 8 = flt T n p 2 := by rw [mset_ne (by omega), mset_eq rfl rfl]
  have g9 : mset (mset s 7 8 (flt T n p 2)) 7 9 (tkq T n p) 7 9 = tkq T n p := mset_eq rfl rfl
  refine ⟨fun c i y1 y2 y3 => by rw [mset_ne (by omega), mset_ne (by omega)], by rw [mset_ne (by omega), mset_ne (by omega)]; exact h9, Or.inr ⟨rfl, by rw [g8]; exact flt_p (by omega), fun u0 u hu => ?_⟩⟩
  rw [g8, g9]
  have q := r_words (D + 5) hT hu.2.1
  have qf := q_Rfails (D + 6) u 2 hu.2.1
  have hq : NoR u0 (flt T n p 2) (tkq T n p) 0 (mset (mset u 137 18 (flt T n p 2)) 137 17 (tkq T n p)) := NoR_f hu.2.2.2
  obtain ⟨k, hk, qk⟩ : ∃ k, (k < 0 ∨ 6 < k) ∧ sem (D + 7) 235 [137, 0] u = some (k, u) := by
    refine ⟨_, ?_, q⟩
    by_cases e1 : tkk T n p = 1
    · rw [if_pos e1]
      by_cases e2 : wnT T n p = -1
      · left; rw [e2]; decide
      · right; exact pm_o (by omega) (by omega)
    · rw [if_neg e1]; omega
  clear q
  apply c_R_hallPart
  rcases hk with hk | hk
  · simp (disch := first | assumption | omega) only [rn, wk, al, wr_e, td_e, tm_e, mset_eq, mset_ne, if_pos, if_neg, Int.reduceAdd, Int.reduceSub, Int.reduceMul, Int.reduceNeg, Int.reduceLT, Int.reduceLE, Int.reduceEq, Int.cast_ofNat_Int, eq_self, and_true, true_and, ite_self, true_or, or_true, false_or, or_false, and_false, false_and, not_true_eq_false, not_false_eq_true, if_true, if_false, e_R_hallPart_0, e_R_hallPart_17, e_R_hallPart_23, e_R_hallPart_41, e_R_hallPart_54, e_R_hallPart_92, e_R_hallPart_106, e_R_hallPart_114, e_R_hallPart_122, e_R_hallPart_130, e_R_hallPart_138, e_R_hallPart_146, e_R_hallPart_151, e_R_hallPart_168, e_R_hallPart_169, qk, qf]
    exact hq
  · simp (disch := first | assumption | omega) only [rn, wk, al, wr_e, td_e, tm_e, mset_eq, mset_ne, if_pos, if_neg, Int.reduceAdd, Int.reduceSub, Int.reduceMul, Int.reduceNeg, Int.reduceLT, Int.reduceLE, Int.reduceEq, Int.cast_ofNat_Int, eq_self, and_true, true_and, ite_self, true_or, or_true, false_or, or_false, and_false, false_and, not_true_eq_false, not_false_eq_true, if_true, if_false, e_R_hallPart_0, e_R_hallPart_17, e_R_hallPart_23, e_R_hallPart_41, e_R_hallPart_54, e_R_hallPart_92, e_R_hallPart_106, e_R_hallPart_114, e_R_hallPart_122, e_R_hallPart_130, e_R_hallPart_138, e_R_hallPart_146, e_R_hallPart_151, e_R_hallPart_168, e_R_hallPart_169, qk, qf]
    exact hq
theorem x_part (d D : Nat) {T : Int → Int} {n p : Int} (hT : TX T n) {s : Mem} (hp : 0 ≤ p ∧ p ≤ n) (hk : TkC T n p s) (hs : Cs T n (tke T n p) s) (hV : ∃ u, HPu s u) (h9 : s 9 1 = 0 ∨ s 9 1 = 1) : CV (d + 7) 34 [9, 57] s (PaP (D + 8) T n p s) := by
  have qw := q_Tword (d + 5) s hk
  have wb := wnT_b (T := T) (n := n) (p := p)
  have px : ∀ (mi : Nat) (k : Int) (mc : Nat), CV (d + 6) mc [9, 57] s (PX (D + 7) mi T n p s) → (∀ u0 u (G : Int → Mem → Prop), RlH T n s u0 u p → CV (D + 7) mi [137] u (fun r v => EV (D + 7) o_R_hallPart 151 [] [137, k, r] v G) → CV (D + 8) 234 [137] u G) → CV (d + 6) mc [9, 57] s (fun r t => (r = 0 ∨ r = 1) ∧ PaP (D + 8) T n p s r t) := fun mi k mc h1 h2 => CV_mono h1 (fun r t ht => ⟨PX01 ht, hp_part D mi hT hp h9 k h2 ht⟩)
  have wd : ∀ w k, tkk T n p = 1 → wnT T n p = w → k = pm w → ∀ u0 u, RlH T n s u0 u p → sem (D + 7) 235 [137, 0] u = some (k, u) := fun w k e1 e2 e3 u0 u hu => by
    have q := r_words (D + 5) hT hu.2.1
    rw [if_pos e1, e2, ← e3] at q
    exact q
  have b102 : PaP (D + 8) T n p s 0 (mset (mset s 7 8 (flt T n p 2)) 7 9 (tkq T n p)) → EV (d + 6) o_HallReader_readPart 102 [] [9, 57] s (PaP (D + 8) T n p s) := fun hb => by
    have q2 := q_Trefuse (d + 5) s 2 hk
    rw [e_HallReader_readPart_102]
    simp (disch := first | assumption | omega) only [rn, wk, al, wr_e, td_e, tm_e, mset_eq, mset_ne, if_pos, if_neg, Int.reduceAdd, Int.reduceSub, Int.reduceMul, Int.reduceNeg, Int.reduceLT, Int.reduceLE, Int.reduceEq, Int.cast_ofNat_Int, eq_self, and_true, true_and, ite_self, true_or, or_true, false_or, or_false, and_false, false_and, not_true_eq_false, not_false_eq_true, if_true, if_false, q2]
    exact hb
  apply c_HallReader_readPart
  by_cases e1 : tkk T n p = 1
  · rw [if_pos e1] at qw
    have hcs : wnT T n p = 0 ∨ wnT T n p = 1 ∨ wnT T n p = 2 ∨ wnT T n p = 5 ∨ wnT T n p = 7 ∨ wnT T n p = 8 ∨ wnT T n p = 9 ∨ ¬ (wnT T n p = 0 ∨ wnT T n p = 1 ∨ wnT T n p = 2 ∨ wnT T n p = 5 ∨ wnT T n p = 7 ∨ wnT T n p = 8 ∨ wnT T n p = 9) := by omega
    rcases hcs with c | c | c | c | c | c | c | c
    · exact rp_0 d s _ qw _ 60 (by omega) (rp_60 d s _ (CV_mono (x_odds d D hT hp hk hs ⟨e1, c⟩ h9) (fun r t ht => ⟨PaP01 ht, ht⟩)))
    · exact rp_0 d s _ qw _ 66 (by omega) (rp_66 d s _ (px 238 1 42 (x_place d (D + 1) hT hp hk hs hV) (fun u0 u G hu h => hp_54_1 D u G (wd 1 1 e1 c rfl u0 u hu) h)))
    · exact rp_0 d s _ qw _ 72 (by omega) (rp_72 d s _ (px 245 2 51 (x_way d D hT hp hk hs hV) (fun u0 u G hu h => hp_54_2 D u G (wd 2 2 e1 c rfl u0 u hu) h)))
    · exact rp_0 d s _ qw _ 78 (by omega) (rp_78 d s _ (px 251 3 55 (x_slate d D hT hp hk hs hV) (fun u0 u G hu h => hp_54_3 D u G (wd 5 3 e1 c rfl u0 u hu) h)))
    · exact rp_0 d s _ qw _ 84 (by omega) (rp_84 d s _ (px 252 4 57 (x_caller d D hT hp hk hs hV) (fun u0 u G hu h => hp_54_4 D u G (wd 7 4 e1 c rfl u0 u hu) h)))
    · exact rp_0 d s _ qw _ 90 (by omega) (rp_90 d s _ (px 254 5 59 (x_cry d D hT hp hk hs hV) (fun u0 u G hu h => hp_54_5 D u G (wd 8 5 e1 c rfl u0 u hu) h)))
    · exact rp_0 d s _ qw _ 96 (by omega) (rp_96 d s _ (px 256 6 63 (x_call d D hT hp hk hs hV) (fun u0 u G hu h => hp_54_6 D u G (wd 9 6 e1 c rfl u0 u hu) h)))
    · exact rp_0 d s _ qw _ 102 (by omega) (b102 (rp_bad D hT h9 (fun h => c h.2)))
  · rw [if_neg e1] at qw
    exact rp_0 d s _ qw _ 102 (by omega) (b102 (rp_bad D hT h9 (fun h => e1 h.1)))
