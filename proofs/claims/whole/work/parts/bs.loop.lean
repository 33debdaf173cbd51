/-! ===== H2: mornings, the loops of both readers ===== -/
theorem MI_t {T : Int → Int} {n p : Int} {s t u0 u : Mem} (hf : ∀ c i, c ≠ 7 → ¬ (c = 69 ∧ i = 0) → t c i = s c i) (h : MI T n s u0 u p) : MI T n t u0 u p := by
  have e : ∀ c, c ≠ 7 → c ≠ 69 → t c = s c := fun c hc h2 => funext (fun i => hf c i hc (by omega))
  unfold MI MRow RowP NmU at h ⊢
  rw [e 37 (by omega) (by omega), e 38 (by omega) (by omega), hf 69 1 (by omega) (by omega), hf 69 2 (by omega) (by omega), e 10 (by omega) (by omega), e 11 (by omega) (by omega), e 70 (by omega) (by omega), e 71 (by omega) (by omega), e 72 (by omega) (by omega), e 73 (by omega) (by omega), e 74 (by omega) (by omega), e 75 (by omega) (by omega), e 76 (by omega) (by omega)]
  exact h
def LpM (D : Nat) (T : Int → Int) (n : Int) (s : Mem) (p : Int) (r : Int) (t : Mem) : Prop := FcM s t ∧ ((r = 1 ∧ (t 7 8 = s 7 8 ∧ t 7 9 = s 7 9) ∧ (t 69 0 = 1 ∧ t 10 2 = 0) ∧ ∀ u0 u (G : Int → Mem → Prop), MI T n s u0 u p → (∀ w p', MI T n t u0 w p' → EV (D + 8) o_R_mornings 77 [] [137, n, 1, 0] w G) → EV (D + 8) o_R_mornings 38 [] [137, n, 1, 0] u G) ∨ (r = 0 ∧ 0 < t 7 8 ∧ ∀ u0 u (G : Int → Mem → Prop), MI T n s u0 u p → (∀ w q, NoM u0 (t 7 8) (t 7 9) 0 w → EV (D + 8) o_R_mornings 77 [] [137, n, q, 0] w G) → EV (D + 8) o_R_mornings 38 [] [137, n, 1, 0] u G))
theorem rm_fin (d D : Nat) {T : Int → Int} {n : Int} (hT : TX T n) (h3 : n ≤ 300) (p i z y : Int) (s : Mem) (hi0 : 0 ≤ i) (hip : i ≤ p) (hs : Cs T n p s) (hR : ∃ u0 u, MI T n s u0 u p) (hk : tkk T n p = 0) : EV (d + 6) o_MorningsReader_readInto 11 [] [10, 69, 37, i, z, y] s (LpM D T n s p) := by
  have hp := hs.1
  obtain ⟨u0', u', hu'⟩ := hR
  have hcn := hu'.2.2.2.1
  rw [e_MorningsReader_readInto_11]
  simp (disch := first | assumption | omega) only [rn, wk, al, wr_e, td_e, tm_e, mset_eq, mset_ne, if_pos, if_neg, Int.reduceAdd, Int.reduceSub, Int.reduceMul, Int.reduceNeg, Int.reduceLT, Int.reduceLE, Int.reduceEq, Int.cast_ofNat_Int, eq_self, and_true, true_and, ite_self, true_or, or_true, false_or, or_false, and_false, false_and, not_true_eq_false, not_false_eq_true, if_true, if_false]
  refine EV_call (CV_mono (c_adv (d + 4) hT hs) ?_)
  rintro r t ⟨f, k, c⟩
  have k4 : t 7 4 = 0 := by rw [k.2.2.2.1, hk]
  obtain ⟨t', ht'⟩ : ∃ t', t' = mset t 69 0 1 := ⟨_, rfl⟩
  have tf : ∀ c i, ¬ (c = 69 ∧ i = 0) → t' c i = t c i := fun c i h => by rw [ht', mset_ne (by omega)]
  have t690 : t' 69 0 = 1 := by rw [ht', mset_eq rfl rfl]
  have t10 : t 10 2 = s 10 2 := f _ _ (by omega)
  have t102 : t' 10 2 = s 10 2 := by rw [tf _ _ (by omega)]; exact t10
  have u12 : ∀ u0 u, MI T n s u0 u p → u 137 12 = 0 := fun u0 u hu => by rw [hu.2.1.2.1.2.2.2.1, hk]; rfl
  by_cases c0 : s 10 2 = 0
  · rw [c0] at t102 t10
    have hq : LpM D T n s p 1 t' := by
      refine ⟨fun c i g1 g2 g3 g4 => by rw [tf c i (by omega)]; exact f c i (by omega), Or.inl ⟨rfl, ⟨by rw [tf _ _ (by omega)]; exact f _ _ (by omega), by rw [tf _ _ (by omega)]; exact f _ _ (by omega)⟩, ⟨t690, t102⟩, fun u0 u G hu K => ?_⟩⟩
      have hx := K u p (MI_t (fun c i g1 g2 => by rw [tf c i g2]; exact f c i (by omega)) hu)
      have uu := u12 u0 u hu
      have u18 : u 137 18 = 0 := hu.2.1.2.2.1.1
      have u22 : u 137 22 = 0 := by rw [hu.2.2.2.2.1.2.2.1]; exact c0
      rw [e_R_mornings_38]
      simp (disch := first | assumption | omega) only [rn, wk, al, wr_e, td_e, tm_e, mset_eq, mset_ne, if_pos, if_neg, Int.reduceAdd, Int.reduceSub, Int.reduceMul, Int.reduceNeg, Int.reduceLT, Int.reduceLE, Int.reduceEq, Int.cast_ofNat_Int, eq_self, and_true, true_and, ite_self, true_or, or_true, false_or, or_false, and_false, false_and, not_true_eq_false, not_false_eq_true, if_true, if_false, uu, e_R_mornings_57, u18, u22]
      exact hx
    simp (disch := first | assumption | omega) only [rn, wk, al, wr_e, td_e, tm_e, mset_eq, mset_ne, if_pos, if_neg, Int.reduceAdd, Int.reduceSub, Int.reduceMul, Int.reduceNeg, Int.reduceLT, Int.reduceLE, Int.reduceEq, Int.cast_ofNat_Int, eq_self, and_true, true_and, ite_self, true_or, or_true, false_or, or_false, and_false, false_and, not_true_eq_false, not_false_eq_true, if_true, if_false, e_MorningsReader_readInto_0, e_MorningsReader_readInto_58, e_MorningsReader_readInto_62, e_MorningsReader_readInto_63, e_MorningsReader_readInto_80, e_MorningsReader_readInto_81, e_MorningsReader_readInto_96, e_MorningsReader_readInto_117, e_MorningsReader_readInto_118, e_MorningsReader_readInto_135, e_MorningsReader_readInto_143, k4, ← ht', t102, t10]
    exact hq
  · have k' : TkC T n p t' := by
      unfold TkC at k ⊢
      simp (disch := omega) only [tf]
      exact k
    have qr := q_Trefuse (d + 5) t' 2 k'
    obtain ⟨x, hx⟩ : ∃ x, x = mset (mset t' 7 8 (flt T n p 2)) 7 9 (tkq T n p) := ⟨_, rfl⟩
    rw [← hx] at qr
    have xf : ∀ c i, ¬ (c = 7 ∧ (i = 8 ∨ i = 9)) → x c i = t' c i := fun c i h => by rw [hx, mset_ne (by omega), mset_ne (by omega)]
    have x8 : x 7 8 = flt T n p 2 := by rw [hx, mset_ne (by omega), mset_eq rfl rfl]
    have x9 : x 7 9 = tkq T n p := by rw [hx, mset_eq rfl rfl]
    have hq : LpM D T n s p 0 x := by
      refine ⟨fun c i g1 g2 g3 g4 => by rw [xf c i (by omega), tf c i (by omega)]; exact f c i (by omega), Or.inr ⟨rfl, by rw [x8]; exact flt_p (by omega), fun u0 u G hu K => ?_⟩⟩
      rw [x8, x9] at K
      have qf := q_Rfails (D + 7) u 2 hu.2.1
      have hz := K _ 1 (NoM_of hu.2.2.1 (NoR_f (u := u) (v := u) (k := flt T n p 2) (f := tkq T n p) (fun _ _ _ _ _ => rfl)))
      have uu := u12 u0 u hu
      have u18 : u 137 18 = 0 := hu.2.1.2.2.1.1
      have u22 : u 137 22 = s 10 2 := hu.2.2.2.2.1.2.2.1
      rw [e_R_mornings_38]
      simp (disch := first | assumption | omega) only [rn, wk, al, wr_e, td_e, tm_e, mset_eq, mset_ne, if_pos, if_neg, Int.reduceAdd, Int.reduceSub, Int.reduceMul, Int.reduceNeg, Int.reduceLT, Int.reduceLE, Int.reduceEq, Int.cast_ofNat_Int, eq_self, and_true, true_and, ite_self, true_or, or_true, false_or, or_false, and_false, false_and, not_true_eq_false, not_false_eq_true, if_true, if_false, uu, e_R_mornings_57, u18, u22, qf]
      exact hz
    simp (disch := first | assumption | omega) only [rn, wk, al, wr_e, td_e, tm_e, mset_eq, mset_ne, if_pos, if_neg, Int.reduceAdd, Int.reduceSub, Int.reduceMul, Int.reduceNeg, Int.reduceLT, Int.reduceLE, Int.reduceEq, Int.cast_ofNat_Int, eq_self, and_true, true_and, ite_self, true_or, or_true, false_or, or_false, and_false, false_and, not_true_eq_false, not_false_eq_true, if_true, if_false, e_MorningsReader_readInto_0, e_MorningsReader_readInto_58, e_MorningsReader_readInto_62, e_MorningsReader_readInto_63, e_MorningsReader_readInto_80, e_MorningsReader_readInto_81, e_MorningsReader_readInto_96, e_MorningsReader_readInto_117, e_MorningsReader_readInto_118, e_MorningsReader_readInto_135, e_MorningsReader_readInto_143, k4, ← ht', t102, t10, qr]
    exact hq
theorem lp_rm (d D : Nat) {T : Int → Int} {n : Int} (hT : TX T n) (h3 : n ≤ 300) : ∀ (m : Nat) (p i z y : Int) (s : Mem), n - p ≤ m → 0 ≤ i → i ≤ p → Cs T n p s → (∃ u0 u, MI T n s u0 u p) → EV (d + 6) o_MorningsReader_readInto 11 [] [10, 69, 37, i, z, y] s (LpM D T n s p) := by
  have hn := hT.1
  intro m
  induction m with
  | zero =>
    intro p i z y s hm hi0 hip hs hR
    exact rm_fin d D hT h3 p i z y s hi0 hip hs hR (tkk_end (by omega))
  | succ m ih =>
    intro p i z y s hm hi0 hip hs hR
    by_cases hk : tkk T n p = 0
    · exact rm_fin d D hT h3 p i z y s hi0 hip hs hR hk
    · have hp := hs.1
      obtain ⟨u0', u', hu'⟩ := hR
      rw [e_MorningsReader_readInto_11]
      simp (disch := first | assumption | omega) only [rn, wk, al, wr_e, td_e, tm_e, mset_eq, mset_ne, if_pos, if_neg, Int.reduceAdd, Int.reduceSub, Int.reduceMul, Int.reduceNeg, Int.reduceLT, Int.reduceLE, Int.reduceEq, Int.cast_ofNat_Int, eq_self, and_true, true_and, ite_self, true_or, or_true, false_or, or_false, and_false, false_and, not_true_eq_false, not_false_eq_true, if_true, if_false]
      refine EV_call (CV_mono (c_adv (d + 4) hT hs) ?_)
      rintro r t ⟨f, k, c⟩
      have k4 : t 7 4 ≠ 0 := by rw [k.2.2.2.1]; exact hk
      have mt : ∀ u0 u, MI T n s u0 u p → MI T n t u0 u p := fun u0 u hu => MI_s (fun c i h => f c i (by omega)) hu
      have u12 : ∀ u0 u, MI T n s u0 u p → u 137 12 ≠ 0 := fun u0 u hu => by
        rw [hu.2.1.2.1.2.2.2.1]
        have := tkk_b (T := T) (n := n) (p := p)
        unfold kr
        repeat' split
        all_goals omega
      have K1 : ∀ t2 z y, StP D T n p t 1 t2 → EV (d + 6) o_MorningsReader_readInto 137 [] [10, 69, 37, i, z, y] t2 (LpM D T n s p) := by
        rintro t2 z y ⟨g1, g⟩
        rcases g with ⟨-, e8, p', hlt, c', ref⟩ | ⟨e, -⟩
        · obtain ⟨rr, ww, -, -, hw'⟩ := ref u0' u' (mt _ _ hu')
          have hx := ih p' (i + 1) z y t2 (by omega) (by omega) (by omega) c' ⟨u0', ww, hw'⟩
          have hy : EV (d + 6) o_MorningsReader_readInto 11 [] [10, 69, 37, i + 1, z, y] t2 (LpM D T n s p) := by
            refine EV_mono hx ?_
            rintro r3 t3 ⟨a1, a2⟩
            refine ⟨fun c i y1 y2 y3 y4 => by rw [a1 c i y1 y2 y3 y4, g1 c i y1 y2 y3 y4]; exact f c i (by omega), ?_⟩
            rcases a2 with ⟨e, b8, b6, K⟩ | ⟨e, b8, K⟩
            · refine Or.inl ⟨e, ⟨by rw [b8.1, e8.1]; exact f _ _ (by omega), by rw [b8.2, e8.2]; exact f _ _ (by omega)⟩, b6, fun u0 u G hu hG => ?_⟩
              have uu := u12 u0 u hu
              rw [e_R_mornings_38]
              simp (disch := first | assumption | omega) only [rn, wk, al, wr_e, td_e, tm_e, mset_eq, mset_ne, if_pos, if_neg, Int.reduceAdd, Int.reduceSub, Int.reduceMul, Int.reduceNeg, Int.reduceLT, Int.reduceLE, Int.reduceEq, Int.cast_ofNat_Int, eq_self, and_true, true_and, ite_self, true_or, or_true, false_or, or_false, and_false, false_and, not_true_eq_false, not_false_eq_true, if_true, if_false, uu]
              refine EV_call (CV_mono (ref u0 u (mt _ _ hu)) ?_)
              rintro r4 w ⟨e4, hw⟩
              subst e4
              have hz := K u0 w G hw hG
              simp (disch := first | assumption | omega) only [rn, wk, al, wr_e, td_e, tm_e, mset_eq, mset_ne, if_pos, if_neg, Int.reduceAdd, Int.reduceSub, Int.reduceMul, Int.reduceNeg, Int.reduceLT, Int.reduceLE, Int.reduceEq, Int.cast_ofNat_Int, eq_self, and_true, true_and, ite_self, true_or, or_true, false_or, or_false, and_false, false_and, not_true_eq_false, not_false_eq_true, if_true, if_false]
              exact hz
            · refine Or.inr ⟨e, b8, fun u0 u G hu hG => ?_⟩
              have uu := u12 u0 u hu
              rw [e_R_mornings_38]
              simp (disch := first | assumption | omega) only [rn, wk, al, wr_e, td_e, tm_e, mset_eq, mset_ne, if_pos, if_neg, Int.reduceAdd, Int.reduceSub, Int.reduceMul, Int.reduceNeg, Int.reduceLT, Int.reduceLE, Int.reduceEq, Int.cast_ofNat_Int, eq_self, and_true, true_and, ite_self, true_or, or_true, false_or, or_false, and_false, false_and, not_true_eq_false, not_false_eq_true, if_true, if_false, uu]
              refine EV_call (CV_mono (ref u0 u (mt _ _ hu)) ?_)
              rintro r4 w ⟨e4, hw⟩
              subst e4
              have hz := K u0 w G hw hG
              simp (disch := first | assumption | omega) only [rn, wk, al, wr_e, td_e, tm_e, mset_eq, mset_ne, if_pos, if_neg, Int.reduceAdd, Int.reduceSub, Int.reduceMul, Int.reduceNeg, Int.reduceLT, Int.reduceLE, Int.reduceEq, Int.cast_ofNat_Int, eq_self, and_true, true_and, ite_self, true_or, or_true, false_or, or_false, and_false, false_and, not_true_eq_false, not_false_eq_true, if_true, if_false]
              exact hz
          rw [e_MorningsReader_readInto_137]
          simp (disch := first | assumption | omega) only [rn, wk, al, wr_e, td_e, tm_e, mset_eq, mset_ne, if_pos, if_neg, Int.reduceAdd, Int.reduceSub, Int.reduceMul, Int.reduceNeg, Int.reduceLT, Int.reduceLE, Int.reduceEq, Int.cast_ofNat_Int, eq_self, and_true, true_and, ite_self, true_or, or_true, false_or, or_false, and_false, false_and, not_true_eq_false, not_false_eq_true, if_true, if_false]
          exact hy
        · omega
      have K0 : ∀ t2, StP D T n p t 0 t2 → LpM D T n s p 0 t2 := by
        rintro t2 ⟨g1, g⟩
        rcases g with ⟨e, -⟩ | ⟨-, e8, ref⟩
        · omega
        · refine ⟨fun c i y1 y2 y3 y4 => by rw [g1 c i y1 y2 y3 y4]; exact f c i (by omega), Or.inr ⟨rfl, e8, fun u0 u G hu hG => ?_⟩⟩
          have uu := u12 u0 u hu
          rw [e_R_mornings_38]
          simp (disch := first | assumption | omega) only [rn, wk, al, wr_e, td_e, tm_e, mset_eq, mset_ne, if_pos, if_neg, Int.reduceAdd, Int.reduceSub, Int.reduceMul, Int.reduceNeg, Int.reduceLT, Int.reduceLE, Int.reduceEq, Int.cast_ofNat_Int, eq_self, and_true, true_and, ite_self, true_or, or_true, false_or, or_false, and_false, false_and, not_true_eq_false, not_false_eq_true, if_true, if_false, uu]
          refine EV_call (CV_mono (ref u0 u (mt _ _ hu)) ?_)
          intro r4 w hw
          obtain ⟨e4, -, w18, -⟩ := id hw
          subst e4
          have hz := hG w 0 hw
          have w18n : ¬ w 137 18 = 0 := by omega
          simp (disch := first | assumption | omega) only [rn, wk, al, wr_e, td_e, tm_e, mset_eq, mset_ne, if_pos, if_neg, Int.reduceAdd, Int.reduceSub, Int.reduceMul, Int.reduceNeg, Int.reduceLT, Int.reduceLE, Int.reduceEq, Int.cast_ofNat_Int, eq_self, and_true, true_and, ite_self, true_or, or_true, false_or, or_false, and_false, false_and, not_true_eq_false, not_false_eq_true, if_true, if_false]
          rw [e_R_mornings_38]
          simp (disch := first | assumption | omega) only [rn, wk, al, wr_e, td_e, tm_e, mset_eq, mset_ne, if_pos, if_neg, Int.reduceAdd, Int.reduceSub, Int.reduceMul, Int.reduceNeg, Int.reduceLT, Int.reduceLE, Int.reduceEq, Int.cast_ofNat_Int, eq_self, and_true, true_and, ite_self, true_or, or_true, false_or, or_false, and_false, false_and, not_true_eq_false, not_false_eq_true, if_true, if_false, e_R_mornings_57, w18n]
          exact hz
      have hx := x_step d D hT hp k c ⟨u0', u', mt _ _ hu'⟩ i z y (LpM D T n s p) K1 K0
      simp (disch := first | assumption | omega) only [rn, wk, al, wr_e, td_e, tm_e, mset_eq, mset_ne, if_pos, if_neg, Int.reduceAdd, Int.reduceSub, Int.reduceMul, Int.reduceNeg, Int.reduceLT, Int.reduceLE, Int.reduceEq, Int.cast_ofNat_Int, eq_self, and_true, true_and, ite_self, true_or, or_true, false_or, or_false, and_false, false_and, not_true_eq_false, not_false_eq_true, if_true, if_false, e_MorningsReader_readInto_0, e_MorningsReader_readInto_58, e_MorningsReader_readInto_62, e_MorningsReader_readInto_63, e_MorningsReader_readInto_80, e_MorningsReader_readInto_81, e_MorningsReader_readInto_96, e_MorningsReader_readInto_117, e_MorningsReader_readInto_118, e_MorningsReader_readInto_135, e_MorningsReader_readInto_143, k4]
      exact hx
