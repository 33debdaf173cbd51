/-! ===== H2: hall, the loops of both readers ===== -/
theorem HR_of {A : Mem} {B N : Int → Int} (h : HP A B N) (hn : VN A) : HR A B N := by
  obtain ⟨c, w, s, l, z, rc, rk, rn, -⟩ := h
  have z12 := z.2.1
  refine ⟨⟨c, w.1, s.1, l.1, fun h => by rw [z.1] at h; omega, hn, ?_, fun h => by rw [z12] at h; omega⟩, rc, w.2, s.2, l.2, rk, fun h => by rw [z.1] at h; omega, rn, fun _ => z.2.2, fun h => by rw [z12] at h; omega⟩
  omega
theorem HP_11 {A A' : Mem} {B N : Int → Int} (h : HP A B N) (e : ∀ k, 0 ≤ k ∧ k < 20 → k ≠ 11 → A' k = A k) : HP A' B N := by
  unfold HP at h ⊢
  unfold VC VW RW VS RS VL RLc RC RK RN Zr at h ⊢
  rw [e 0 (by omega) (by omega), e 1 (by omega) (by omega), e 2 (by omega) (by omega), e 3 (by omega) (by omega), e 4 (by omega) (by omega), e 5 (by omega) (by omega), e 6 (by omega) (by omega), e 7 (by omega) (by omega), e 8 (by omega) (by omega), e 9 (by omega) (by omega), e 12 (by omega) (by omega)]
  exact h
def LpH (D : Nat) (T : Int → Int) (n : Int) (s : Mem) (p : Int) (r : Int) (t : Mem) : Prop := FcO s t ∧ ((r = 1 ∧ (t 7 8 = s 7 8 ∧ t 7 9 = s 7 9) ∧ (t 57 6 = 0 ∧ t 69 0 = 0) ∧ ∀ u0 u (G : Int → Mem → Prop), RlH T n s u0 u p → (∀ w, HR (win t 57) (fun i => w 138 (3472 + i)) (fun i => w 139 (64 + i)) → FrH u0 w → (w 137 18 = 0 ∧ w 137 17 = -1) → EV (D + 8) o_R_hall 50 [] [137, n, 1, 0] w G) → EV (D + 8) o_R_hall 31 [] [137, n, 1, 0] u G) ∨ (r = 0 ∧ 0 < t 7 8 ∧ ∀ u0 u (G : Int → Mem → Prop), RlH T n s u0 u p → (∀ w, NoR u0 (t 7 8) (t 7 9) 0 w → EV (D + 8) o_R_hall 50 [] [137, n, 0, 0] w G) → EV (D + 8) o_R_hall 31 [] [137, n, 1, 0] u G))
theorem RlH_s {T : Int → Int} {n : Int} {s t u0 u : Mem} {p : Int} (hf : Fta s t) (h : RlH T n s u0 u p) : RlH T n t u0 u p := ⟨HPu_f (fun c i hc => hf c i (by omega)) (fun _ => rfl) (fun _ => rfl) h.1, h.2.1, by rw [hf _ _ (by omega)]; exact h.2.2.1, h.2.2.2⟩
theorem ri_fin (d D : Nat) {T : Int → Int} {n : Int} (hT : TX T n) (p i : Int) (s : Mem) (hi0 : 0 ≤ i) (hip : i ≤ p) (hs : Cs T n p s) (hR : ∃ u0 u, RlH T n s u0 u p) (hk : tkk T n p = 0) : EV (d + 7) o_HallReader_readInto 11 [] [9, 57, i] s (LpH D T n s p) := by
  have hn := hT.1
  have hp := hs.1
  obtain ⟨u0', u', hu'⟩ := hR
  rw [e_HallReader_readInto_11]
  simp (disch := first | assumption | omega) only [rn, wk, al, wr_e, td_e, tm_e, mset_eq, mset_ne, if_pos, if_neg, Int.reduceAdd, Int.reduceSub, Int.reduceMul, Int.reduceNeg, Int.reduceLT, Int.reduceLE, Int.reduceEq, Int.cast_ofNat_Int, eq_self, and_true, true_and, ite_self, true_or, or_true, false_or, or_false, and_false, false_and, not_true_eq_false, not_false_eq_true, if_true, if_false]
  refine EV_call (CV_mono (c_adv (d + 5) hT hs) ?_)
  rintro r t ⟨f, k, c⟩
  have k4 : t 7 4 = 0 := by rw [k.2.2.2.1, hk]
  have hpt : HPu t u' := HPu_f (fun c i hc => f c i (by omega)) (fun _ => rfl) (fun _ => rfl) hu'.1
  have hc := hpt.1
  have hw := hpt.2.1.1
  simp (disch := first | assumption | omega) only [rn, wk, al, wr_e, td_e, tm_e, mset_eq, mset_ne, if_pos, if_neg, Int.reduceAdd, Int.reduceSub, Int.reduceMul, Int.reduceNeg, Int.reduceLT, Int.reduceLE, Int.reduceEq, Int.cast_ofNat_Int, eq_self, and_true, true_and, ite_self, true_or, or_true, false_or, or_false, and_false, false_and, not_true_eq_false, not_false_eq_true, if_true, if_false, e_HallReader_readInto_0, e_HallReader_readInto_46, e_HallReader_readInto_56, e_HallReader_readInto_62, k4]
  refine EV_call (CV_mono (q_measure (d + 4) isH57 68 (-1) t rfl (by omega) hc hw) ?_)
  rintro r2 t2 ⟨f2, g2⟩
  have e : ∀ k, 0 ≤ k ∧ k < 20 → k ≠ 11 → win t2 57 k = win t 57 k := fun k hk hk2 => funext (fun i => f2 (57 + k) i (by omega))
  have hq : LpH D T n s p 1 t2 := by
    refine ⟨fun c i y1 y2 y3 => by rw [f2 c i (by omega)]; exact f c i (by omega), Or.inl ⟨rfl, ⟨by rw [f2 _ _ (by omega)]; exact f _ _ (by omega), by rw [f2 _ _ (by omega)]; exact f _ _ (by omega)⟩, ⟨by rw [f2 _ _ (by omega)]; exact hpt.2.2.2.2.1.1, by rw [f2 _ _ (by omega)]; exact hpt.2.2.2.2.1.2.1⟩, fun u0 u G hu K => ?_⟩⟩
    have hut : HPu t u := HPu_f (fun c i hc => f c i (by omega)) (fun _ => rfl) (fun _ => rfl) hu.1
    have hp2 : HP (win t2 57) (fun i => u 138 (3472 + i)) (fun i => u 139 (64 + i)) := HP_11 hut e
    have hvn : VN (win t2 57) := by
      refine vn_of hp2.1 hp2.2.1.1 ?_
      have e2 : (fun a b => win t2 57 11 (7 * a + b)) = fun a b => t2 68 (7 * a + b) := rfl
      rw [e2]
      refine Fpost_congr ?_ ?_ ?_ ?_ ?_ g2
      · rw [e 0 (by omega) (by omega)]
      · rw [e 0 (by omega) (by omega)]
      · exact e 2 (by omega) (by omega)
      · exact e 3 (by omega) (by omega)
      · exact e 4 (by omega) (by omega)
    have hx := K u (HR_of hp2 hvn) hu.2.2.2 hu.2.1.2.2.1
    have u12 : u 137 12 = 0 := by rw [hu.2.1.2.1.2.2.2.1, hk]; rfl
    rw [e_R_hall_31]
    simp (disch := first | assumption | omega) only [rn, wk, al, wr_e, td_e, tm_e, mset_eq, mset_ne, if_pos, if_neg, Int.reduceAdd, Int.reduceSub, Int.reduceMul, Int.reduceNeg, Int.reduceLT, Int.reduceLE, Int.reduceEq, Int.cast_ofNat_Int, eq_self, and_true, true_and, ite_self, true_or, or_true, false_or, or_false, and_false, false_and, not_true_eq_false, not_false_eq_true, if_true, if_false, u12]
    exact hx
  simp (disch := first | assumption | omega) only [rn, wk, al, wr_e, td_e, tm_e, mset_eq, mset_ne, if_pos, if_neg, Int.reduceAdd, Int.reduceSub, Int.reduceMul, Int.reduceNeg, Int.reduceLT, Int.reduceLE, Int.reduceEq, Int.cast_ofNat_Int, eq_self, and_true, true_and, ite_self, true_or, or_true, false_or, or_false, and_false, false_and, not_true_eq_false, not_false_eq_true, if_true, if_false, e_HallReader_readInto_0, e_HallReader_readInto_46, e_HallReader_readInto_56, e_HallReader_readInto_62]
  exact hq
theorem tkk_end {T : Int → Int} {n p : Int} (h : n ≤ p) : tkk T n p = 0 := by
  have h1 := (rux_ok (P := isB) (T := T) (n := n) p).1.1
  unfold tkk
  rw [if_pos (by show n ≤ rux isB T n p; omega)]
theorem lp_ri (d D : Nat) {T : Int → Int} {n : Int} (hT : TX T n) : ∀ (m : Nat) (p i : Int) (s : Mem), n - p ≤ m → 0 ≤ i → i ≤ p → Cs T n p s → (s 9 1 = 0 ∨ s 9 1 = 1) → (∃ u0 u, RlH T n s u0 u p) → EV (d + 7) o_HallReader_readInto 11 [] [9, 57, i] s (LpH D T n s p) := by
  have hn := hT.1
  intro m
  induction m with
  | zero =>
    intro p i s hm hi0 hip hs h9 hR
    exact ri_fin d D hT p i s hi0 hip hs hR (tkk_end (by omega))
  | succ m ih =>
    intro p i s hm hi0 hip hs h9 hR
    by_cases hk : tkk T n p = 0
    · exact ri_fin d D hT p i s hi0 hip hs hR hk
    · have hp := hs.1
      obtain ⟨u0', u', hu'⟩ := hR
      rw [e_HallReader_readInto_11]
      simp (disch := first | assumption | omega) only [rn, wk, al, wr_e, td_e, tm_e, mset_eq, mset_ne, if_pos, if_neg, Int.reduceAdd, Int.reduceSub, Int.reduceMul, Int.reduceNeg, Int.reduceLT, Int.reduceLE, Int.reduceEq, Int.cast_ofNat_Int, eq_self, and_true, true_and, ite_self, true_or, or_true, false_or, or_false, and_false, false_and, not_true_eq_false, not_false_eq_true, if_true, if_false]
      refine EV_call (CV_mono (c_adv (d + 5) hT hs) ?_)
      rintro r t ⟨f, k, c⟩
      have k4 : t 7 4 ≠ 0 := by rw [k.2.2.2.1]; exact hk
      simp (disch := first | assumption | omega) only [rn, wk, al, wr_e, td_e, tm_e, mset_eq, mset_ne, if_pos, if_neg, Int.reduceAdd, Int.reduceSub, Int.reduceMul, Int.reduceNeg, Int.reduceLT, Int.reduceLE, Int.reduceEq, Int.cast_ofNat_Int, eq_self, and_true, true_and, ite_self, true_or, or_true, false_or, or_false, and_false, false_and, not_true_eq_false, not_false_eq_true, if_true, if_false, e_HallReader_readInto_0, e_HallReader_readInto_46, e_HallReader_readInto_56, e_HallReader_readInto_62, k4]
      refine EV_call (CV_mono (x_part d D hT hp k c ⟨u', (RlH_s f hu').1⟩ (by rw [f _ _ (by omega)]; exact h9)) ?_)
      rintro r2 t2 ⟨g1, g9, g⟩
      have u12 : ∀ u0 u, RlH T n s u0 u p → u 137 12 ≠ 0 := fun u0 u hu => by
        rw [hu.2.1.2.1.2.2.2.1]
        have := tkk_b (T := T) (n := n) (p := p)
        unfold kr
        repeat' split
        all_goals omega
      rcases g with ⟨e, e8, p', hlt, c', ref⟩ | ⟨e, e8, ref⟩
      · subst e
        obtain ⟨rr, ww, -, -, hw'⟩ := ref u0' u' (RlH_s f hu')
        have hx := ih p' (i + 1) t2 (by omega) (by omega) (by omega) c' g9 ⟨u0', ww, hw'⟩
        have hy : EV (d + 7) o_HallReader_readInto 11 [] [9, 57, i + 1] t2 (LpH D T n s p) := by
          refine EV_mono hx ?_
          rintro r3 t3 ⟨a1, a2⟩
          refine ⟨fun c i y1 y2 y3 => by rw [a1 c i y1 y2 y3, g1 c i y1 y2 y3]; exact f c i (by omega), ?_⟩
          rcases a2 with ⟨e, b8, b6, K⟩ | ⟨e, b8, K⟩
          · refine Or.inl ⟨e, ⟨by rw [b8.1, e8.1]; exact f _ _ (by omega), by rw [b8.2, e8.2]; exact f _ _ (by omega)⟩, b6, fun u0 u G hu hG => ?_⟩
            have uu := u12 u0 u hu
            rw [e_R_hall_31]
            simp (disch := first | assumption | omega) only [rn, wk, al, wr_e, td_e, tm_e, mset_eq, mset_ne, if_pos, if_neg, Int.reduceAdd, Int.reduceSub, Int.reduceMul, Int.reduceNeg, Int.reduceLT, Int.reduceLE, Int.reduceEq, Int.cast_ofNat_Int, eq_self, and_true, true_and, ite_self, true_or, or_true, false_or, or_false, and_false, false_and, not_true_eq_false, not_false_eq_true, if_true, if_false, uu]
            refine EV_call (CV_mono (ref u0 u (RlH_s f hu)) ?_)
            rintro r4 w ⟨e4, hw⟩
            subst e4
            have hz := K u0 w G hw hG
            simp (disch := first | assumption | omega) only [rn, wk, al, wr_e, td_e, tm_e, mset_eq, mset_ne, if_pos, if_neg, Int.reduceAdd, Int.reduceSub, Int.reduceMul, Int.reduceNeg, Int.reduceLT, Int.reduceLE, Int.reduceEq, Int.cast_ofNat_Int, eq_self, and_true, true_and, ite_self, true_or, or_true, false_or, or_false, and_false, false_and, not_true_eq_false, not_false_eq_true, if_true, if_false]
            exact hz
          · refine Or.inr ⟨e, b8, fun u0 u G hu hG => ?_⟩
            have uu := u12 u0 u hu
            rw [e_R_hall_31]
            simp (disch := first | assumption | omega) only [rn, wk, al, wr_e, td_e, tm_e, mset_eq, mset_ne, if_pos, if_neg, Int.reduceAdd, Int.reduceSub, Int.reduceMul, Int.reduceNeg, Int.reduceLT, Int.reduceLE, Int.reduceEq, Int.cast_ofNat_Int, eq_self, and_true, true_and, ite_self, true_or, or_true, false_or, or_false, and_false, false_and, not_true_eq_false, not_false_eq_true, if_true, if_false, uu]
            refine EV_call (CV_mono (ref u0 u (RlH_s f hu)) ?_)
            rintro r4 w ⟨e4, hw⟩
            subst e4
            have hz := K u0 w G hw hG
            simp (disch := first | assumption | omega) only [rn, wk, al, wr_e, td_e, tm_e, mset_eq, mset_ne, if_pos, if_neg, Int.reduceAdd, Int.reduceSub, Int.reduceMul, Int.reduceNeg, Int.reduceLT, Int.reduceLE, Int.reduceEq, Int.cast_ofNat_Int, eq_self, and_true, true_and, ite_self, true_or, or_true, false_or, or_false, and_false, false_and, not_true_eq_false, not_false_eq_true, if_true, if_false]
            exact hz
        simp (disch := first | assumption | omega) only [rn, wk, al, wr_e, td_e, tm_e, mset_eq, mset_ne, if_pos, if_neg, Int.reduceAdd, Int.reduceSub, Int.reduceMul, Int.reduceNeg, Int.reduceLT, Int.reduceLE, Int.reduceEq, Int.cast_ofNat_Int, eq_self, and_true, true_and, ite_self, true_or, or_true, false_or, or_false, and_false, false_and, not_true_eq_false, not_false_eq_true, if_true, if_false, e_HallReader_readInto_0, e_HallReader_readInto_46, e_HallReader_readInto_56, e_HallReader_readInto_62]
        exact hy
      · subst e
        have hq : LpH D T n s p 0 t2 := by
          refine ⟨fun c i y1 y2 y3 => by rw [g1 c i y1 y2 y3]; exact f c i (by omega), Or.inr ⟨rfl, e8, fun u0 u G hu hG => ?_⟩⟩
          have uu := u12 u0 u hu
          rw [e_R_hall_31]
          simp (disch := first | assumption | omega) only [rn, wk, al, wr_e, td_e, tm_e, mset_eq, mset_ne, if_pos, if_neg, Int.reduceAdd, Int.reduceSub, Int.reduceMul, Int.reduceNeg, Int.reduceLT, Int.reduceLE, Int.reduceEq, Int.cast_ofNat_Int, eq_self, and_true, true_and, ite_self, true_or, or_true, false_or, or_false, and_false, false_and, not_true_eq_false, not_false_eq_true, if_true, if_false, uu]
          refine EV_call (CV_mono (ref u0 u (RlH_s f hu)) ?_)
          intro r4 w hw
          obtain ⟨e4, -⟩ := id hw
          subst e4
          have hz := hG w hw
          simp (disch := first | assumption | omega) only [rn, wk, al, wr_e, td_e, tm_e, mset_eq, mset_ne, if_pos, if_neg, Int.reduceAdd, Int.reduceSub, Int.reduceMul, Int.reduceNeg, Int.reduceLT, Int.reduceLE, Int.reduceEq, Int.cast_ofNat_Int, eq_self, and_true, true_and, ite_self, true_or, or_true, false_or, or_false, and_false, false_and, not_true_eq_false, not_false_eq_true, if_true, if_false]
          rw [e_R_hall_31]
          simp (disch := first | assumption | omega) only [rn, wk, al, wr_e, td_e, tm_e, mset_eq, mset_ne, if_pos, if_neg, Int.reduceAdd, Int.reduceSub, Int.reduceMul, Int.reduceNeg, Int.reduceLT, Int.reduceLE, Int.reduceEq, Int.cast_ofNat_Int, eq_self, and_true, true_and, ite_self, true_or, or_true, false_or, or_false, and_false, false_and, not_true_eq_false, not_false_eq_true, if_true, if_false]
          exact hz
        simp (disch := first | assumption | omega) only [rn, wk, al, wr_e, td_e, tm_e, mset_eq, mset_ne, if_pos, if_neg, Int.reduceAdd, Int.reduceSub, Int.reduceMul, Int.reduceNeg, Int.reduceLT, Int.reduceLE, Int.reduceEq, Int.cast_ofNat_Int, eq_self, and_true, true_and, ite_self, true_or, or_true, false_or, or_false, and_false, false_and, not_true_eq_false, not_false_eq_true, if_true, if_false, e_HallReader_readInto_0, e_HallReader_readInto_46, e_HallReader_readInto_56, e_HallReader_readInto_62]
        exact hq
