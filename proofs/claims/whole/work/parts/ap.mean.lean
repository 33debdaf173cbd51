/-! ===== H2: mean alike ===== -/
def Fmn (s t : Mem) : Prop := ∀ c i, ¬ (c = 12 ∨ c = 13 ∨ (57 ≤ c ∧ c ≤ 76)) → t c i = s c i
def RI (s b u : Mem) : Prop := (∀ c i, c ≠ 146 → c ≠ 147 → c ≠ 152 → c ≠ 153 → ¬ (c = 137 ∧ (i = 26 ∨ i = 27 ∨ i = 41 ∨ i = 42)) → ¬ (c = 138 ∧ (i < 0 ∨ (4340 ≤ i ∧ i < 4840))) → u c i = b c i) ∧ (∀ k, 0 ≤ k ∧ k < 500 → u 138 (4340 + k) = s 138 k) ∧ (∀ i, b 138 i = s 138 i) ∧ ∀ i, b 139 i = s 139 i
theorem lp_mn120 (d : Nat) (sd many N i : Int) (F : Int → Mem → Prop) (u : Mem) (K : ∀ w, (∀ c j, ¬ (c = 138 ∧ 0 ≤ j ∧ j < 500) → w c j = u c j) → (∀ j, 0 ≤ j ∧ j < 500 → w 138 j = u 138 (4340 + j)) → EV d o_R_mean 152 [] [137, sd, many, N, 0, i, 500] w F) : ∀ (n : Nat) (k : Int) (w : Mem), 0 ≤ k → k + n = 500 → (∀ c j, ¬ (c = 138 ∧ 0 ≤ j ∧ j < 500) → w c j = u c j) → (∀ j, 0 ≤ j ∧ j < k → w 138 j = u 138 (4340 + j)) → EV d o_R_mean 120 [] [137, sd, many, N, 0, i, k] w F := by
  intro n
  induction n with
  | zero =>
    intro k w h0 hk hf h1
    have ek : k = 500 := by omega
    subst ek
    have hx := K w hf h1
    rw [e_R_mean_120]
    simp (disch := first | assumption | omega) only [rn, wk, al, wr_e, td_e, tm_e, mset_eq, mset_ne, if_pos, if_neg, Int.reduceAdd, Int.reduceSub, Int.reduceMul, Int.reduceNeg, Int.reduceLT, Int.reduceLE, Int.reduceEq, Int.cast_ofNat_Int, eq_self, and_true, true_and, ite_self, true_or, or_true, false_or, or_false, and_false, false_and, not_true_eq_false, not_false_eq_true, if_true, if_false]
    exact hx
  | succ n ih =>
    intro k w h0 hk hf h1
    have e := hf 138 (4340 + k) (by omega)
    have hx := ih (k + 1) (mset w 138 k (u 138 (4340 + k))) (by omega) (by omega) (fun c i hc => by rw [mset_ne (by omega)]; exact hf c i hc) (fun j hj => by
      by_cases e : j = k
      · rw [e, mset_eq rfl rfl]
      · rw [mset_ne (by omega)]; exact h1 j (by omega))
    rw [e_R_mean_120]
    simp (disch := first | assumption | omega) only [rn, wk, al, wr_e, td_e, tm_e, mset_eq, mset_ne, if_pos, if_neg, Int.reduceAdd, Int.reduceSub, Int.reduceMul, Int.reduceNeg, Int.reduceLT, Int.reduceLE, Int.reduceEq, Int.cast_ofNat_Int, eq_self, and_true, true_and, ite_self, true_or, or_true, false_or, or_false, and_false, false_and, not_true_eq_false, not_false_eq_true, if_true, if_false, e]
    exact hx
theorem lp_mn61 (d : Nat) (sd many : Int) (F : Int → Mem → Prop) (u : Mem) (K : ∀ w, (∀ c j, ¬ (c = 138 ∧ 4340 ≤ j ∧ j < 4840) → w c j = u c j) → (∀ j, 0 ≤ j ∧ j < 500 → w 138 (4340 + j) = u 138 j) → EV d o_R_mean 90 [] [137, sd, many, 500, 0, 0, 0] w F) : ∀ (n : Nat) (k : Int) (w : Mem), 0 ≤ k → k + n = 500 → (∀ c j, ¬ (c = 138 ∧ 4340 ≤ j ∧ j < 4840) → w c j = u c j) → (∀ j, 0 ≤ j ∧ j < k → w 138 (4340 + j) = u 138 j) → EV d o_R_mean 61 [] [137, sd, many, k, 0, 0, 0] w F := by
  intro n
  induction n with
  | zero =>
    intro k w h0 hk hf h1
    have ek : k = 500 := by omega
    subst ek
    have hx := K w hf h1
    rw [e_R_mean_61]
    simp (disch := first | assumption | omega) only [rn, wk, al, wr_e, td_e, tm_e, mset_eq, mset_ne, if_pos, if_neg, Int.reduceAdd, Int.reduceSub, Int.reduceMul, Int.reduceNeg, Int.reduceLT, Int.reduceLE, Int.reduceEq, Int.cast_ofNat_Int, eq_self, and_true, true_and, ite_self, true_or, or_true, false_or, or_false, and_false, false_and, not_true_eq_false, not_false_eq_true, if_true, if_false]
    exact hx
  | succ n ih =>
    intro k w h0 hk hf h1
    have e := hf 138 k (by omega)
    have hx := ih (k + 1) (mset w 138 (4340 + k) (u 138 k)) (by omega) (by omega) (fun c i hc => by rw [mset_ne (by omega)]; exact hf c i hc) (fun j hj => by
      by_cases e : j = k
      · rw [e, mset_eq rfl rfl]
      · rw [mset_ne (by omega)]; exact h1 j (by omega))
    rw [e_R_mean_61]
    simp (disch := first | assumption | omega) only [rn, wk, al, wr_e, td_e, tm_e, mset_eq, mset_ne, if_pos, if_neg, Int.reduceAdd, Int.reduceSub, Int.reduceMul, Int.reduceNeg, Int.reduceLT, Int.reduceLE, Int.reduceEq, Int.cast_ofNat_Int, eq_self, and_true, true_and, ite_self, true_or, or_true, false_or, or_false, and_false, false_and, not_true_eq_false, not_false_eq_true, if_true, if_false, e]
    exact hx
/-- from the row i on the reference adds S -/
def RefS (d : Nat) (s : Mem) (sd many i S : Int) : Prop := ∀ b F u N0 z6, RI s b u → (0 ≤ N0 ∧ N0 ≤ 10000 * i) → (∀ w z, RI s b w → EV (d + 29) o_R_mean 95 [] [137, sd, many, N0 + S, 0, many, z] w F) → EV (d + 29) o_R_mean 95 [] [137, sd, many, N0, 0, i, z6] u F
theorem lp_mn (d : Nat) (s : Mem) (hi : Inv s) (h49 : s 49 0 = 1) (sd many : Int) (hs : 0 ≤ sd ∧ sd ≤ 9999) (hm : 1 ≤ many ∧ many ≤ 20) (hsm : sd + many - 1 ≤ 9999) (Q : Int → Mem → Prop) : ∀ (n : Nat) (i tog : Int) (s' : Mem), 0 ≤ i → i + n = many → Fmn s s' → (0 ≤ tog ∧ tog ≤ 10000 * i) → (∀ t (S : Int), Fmn s t → (0 ≤ S ∧ S ≤ 10000 * n) → RefS d s sd many i S → EV (d + 29) o_M_mean 138 [] [0, sd, many, 1, 1, tog + S, 0, many] t Q) → EV (d + 29) o_M_mean 87 [] [0, sd, many, 1, 1, tog, 0, i] s' Q := by
  have hu0 : HRu 37 s s := hi.2.2.2.2.1
  have hc6 := inv_c hi
  intro n
  induction n with
  | zero =>
    intro i tog s' h0 hin hf ht hQ
    have ei : i = many := by omega
    subst ei
    have hx := hQ s' 0 hf (by omega) (fun b F u N0 z6 hr _ K => by
      have := K u z6 hr
      rw [Int.add_zero] at this; exact this)
    rw [Int.add_zero] at hx
    rw [e_M_mean_87]
    simp (disch := first | assumption | omega) only [rn, wk, al, wr_e, td_e, tm_e, mset_eq, mset_ne, if_pos, if_neg, Int.reduceAdd, Int.reduceSub, Int.reduceMul, Int.reduceNeg, Int.reduceLT, Int.reduceLE, Int.reduceEq, Int.cast_ofNat_Int, eq_self, and_true, true_and, ite_self, true_or, or_true, false_or, or_false, and_false, false_and, not_true_eq_false, not_false_eq_true, if_true, if_false]
    exact hx
  | succ n ih =>
    intro i tog s' h0 hin hf ht hQ
    rw [e_M_mean_87]
    simp (disch := first | assumption | omega) only [rn, wk, al, wr_e, td_e, tm_e, mset_eq, mset_ne, if_pos, if_neg, Int.reduceAdd, Int.reduceSub, Int.reduceMul, Int.reduceNeg, Int.reduceLT, Int.reduceLE, Int.reduceEq, Int.cast_ofNat_Int, eq_self, and_true, true_and, ite_self, true_or, or_true, false_or, or_false, and_false, false_and, not_true_eq_false, not_false_eq_true, if_true, if_false]
    have g49 : s' (37 + 12) 0 = 1 := by rw [hf _ _ (by omega)]; exact h49
    have g6 : s' 37 6 = s 37 6 := hf _ _ (by omega)
    refine EV_call (CV_mono (q_takeFrom (d + 27) isH57 isH37 (by omega) s' (by omega) (by omega)) ?_)
    rintro r1 t1 ⟨k1, k2⟩
    have sh : ∀ u : Mem, (∀ i, 0 ≤ i → i < 868 → u 138 i = s 138 i) → (∀ i, u 139 i = s 139 i) → HRu 57 t1 u := fun u e1 e2 => by
      refine HR_congr (A := win s 37) (B := s 138) (N := s 139) ?_ (fun i a b => e1 i a b) (fun i _ _ => e2 i) hu0
      intro k i hk hl
      show t1 (57 + k) i = s (37 + k) i
      rw [k1 k i hk hl]; exact hf _ _ (by omega)
    have t49 : t1 (57 + 12) 0 = 1 := by rw [k1 12 0 (by omega) ⟨by omega, show (0 : Int) < 3 by omega⟩]; exact g49
    refine EV_call (CV_mono (q_lives2 (d + 21) (d + 18) isH57 t1 (sd + i) ⟨s, sh s (fun _ _ _ => rfl) (fun _ => rfl)⟩ t49 (by omega)) ?_)
    rintro r2 t2 ⟨f1, ⟨f2, -⟩, f4⟩
    obtain ⟨v, hv⟩ := f2
    have vb := VB_of hv.1
    have vk := vKs_of hv
    obtain ⟨S, hS⟩ : ∃ S, S = sg (tO (win t2 57)) 0 (t2 57 3).toNat := ⟨_, rfl⟩
    have c3 : 0 ≤ t2 57 3 ∧ t2 57 3 ≤ 4 := by have := (HRu_c hv).1; omega
    have hSb : 0 ≤ S ∧ S ≤ 10000 := by
      have := sg_bd (f := tO (win t2 57)) (m := 2376) (t2 57 3).toNat 0 (fun x a b => tO_ok vb vk (show 0 ≤ x ∧ x < t2 57 3 by omega))
      rw [← hS] at this
      omega
    have qt := q_total (d + 24) isH57 t2 vb vk
    rw [← hS] at qt
    have fm2 : Fmn s t2 := fun c j hc => by rw [f1 c j (by omega), k2 c j (by omega)]; exact hf c j (by omega)
    have hx := ih (i + 1) (tog + S) t2 (by omega) (by omega) fm2 (by omega) (fun t S' a1 a2 a3 => by
      have := hQ t (S + S') a1 (by omega) (fun b F u N0 z6 hr hN K => by
        obtain ⟨r1, r2, r3, r4⟩ := hr
        have hu1 : HRu 57 t1 u := sh u (fun j a c => by rw [r1 138 j (by omega) (by omega) (by omega) (by omega) (by omega) (by omega)]; exact r3 j) (fun j => by rw [r1 139 j (by omega) (by omega) (by omega) (by omega) (by omega) (by omega)]; exact r4 j)
        rw [e_R_mean_95]
        simp (disch := first | assumption | omega) only [rn, wk, al, wr_e, td_e, tm_e, mset_eq, mset_ne, if_pos, if_neg, Int.reduceAdd, Int.reduceSub, Int.reduceMul, Int.reduceNeg, Int.reduceLT, Int.reduceLE, Int.reduceEq, Int.cast_ofNat_Int, eq_self, and_true, true_and, ite_self, true_or, or_true, false_or, or_false, and_false, false_and, not_true_eq_false, not_false_eq_true, if_true, if_false]
        refine EV_call (CV_mono (f4 u hu1) ?_)
        rintro r3' w ⟨w1, -, w2⟩
        refine EV_call (CV_mono (q_allSums (d + 22) (win t2 57) w (RA_of w1) vk) ?_)
        rintro r4' x ⟨x0, x1, -⟩
        have x0' : r4' = S := by rw [x0, hS, win0]
        subst x0'
        have xf : ∀ c j, c ≠ 146 → c ≠ 147 → c ≠ 152 → c ≠ 153 → ¬ (c = 137 ∧ (j = 26 ∨ j = 27 ∨ j = 41 ∨ j = 42)) → ¬ (c = 138 ∧ j < 500) → x c j = u c j := fun c j b1 b2 b3 b4 b5 b6 => by
          rw [x1 c j b2 b1 (by omega)]; exact w2 c j b1 b2 b3 b4 b5 b6
        have hy := lp_mn120 (d + 29) sd many (N0 + r4') i F x (fun y y1 y2 => by
          have hry : RI s b y := by
            refine ⟨fun c j b1 b2 b3 b4 b5 b6 => ?_, fun k hk => ?_, r3, r4⟩
            · by_cases e : c = 138 ∧ j < 500
              · rw [e.1, y2 j (by omega), xf _ _ (by omega) (by omega) (by omega) (by omega) (by omega) (by omega), r2 j (by omega), r3]
              · rw [y1 c j (by omega), xf c j b1 b2 b3 b4 b5 e]; exact r1 c j b1 b2 b3 b4 b5 b6
            · rw [y1 _ _ (by omega), xf _ _ (by omega) (by omega) (by omega) (by omega) (by omega) (by omega)]; exact r2 k hk
          have hz := a3 b F y (N0 + r4') 500 hry (by omega) (fun w z hw => by
            have := K w z hw
            rw [show N0 + (r4' + S') = N0 + r4' + S' by omega] at this; exact this)
          rw [e_R_mean_152]
          simp (disch := first | assumption | omega) only [rn, wk, al, wr_e, td_e, tm_e, mset_eq, mset_ne, if_pos, if_neg, Int.reduceAdd, Int.reduceSub, Int.reduceMul, Int.reduceNeg, Int.reduceLT, Int.reduceLE, Int.reduceEq, Int.cast_ofNat_Int, eq_self, and_true, true_and, ite_self, true_or, or_true, false_or, or_false, and_false, false_and, not_true_eq_false, not_false_eq_true, if_true, if_false]
          exact hz) 500 0 x (by omega) (by omega) (fun _ _ _ => rfl) (fun j hj => by omega)
        simp (disch := first | assumption | omega) only [rn, wk, al, wr_e, td_e, tm_e, mset_eq, mset_ne, if_pos, if_neg, Int.reduceAdd, Int.reduceSub, Int.reduceMul, Int.reduceNeg, Int.reduceLT, Int.reduceLE, Int.reduceEq, Int.cast_ofNat_Int, eq_self, and_true, true_and, ite_self, true_or, or_true, false_or, or_false, and_false, false_and, not_true_eq_false, not_false_eq_true, if_true, if_false, wl_e]
        exact hy)
      rw [show tog + (S + S') = tog + S + S' by omega] at this
      exact this)
    simp (disch := first | assumption | omega) only [rn, wk, al, wr_e, td_e, tm_e, mset_eq, mset_ne, if_pos, if_neg, Int.reduceAdd, Int.reduceSub, Int.reduceMul, Int.reduceNeg, Int.reduceLT, Int.reduceLE, Int.reduceEq, Int.cast_ofNat_Int, eq_self, and_true, true_and, ite_self, true_or, or_true, false_or, or_false, and_false, false_and, not_true_eq_false, not_false_eq_true, if_true, if_false, qt, wl_e]
    exact hx
theorem ak_mean (d : Nat) (sd many : Int) (hsd : in32 sd) (hmn : in32 many) : Ak (d + 30) 208 367 [sd, many] := by
  apply ak_of; intro s hi
  obtain ⟨t0, t1, t2⟩ := inv_t hi
  unfold in32 at hsd hmn
  by_cases c1 : 0 ≤ sd ∧ sd ≤ 9999
  · by_cases c2 : 1 ≤ many ∧ many ≤ 20
    · by_cases c3 : sd + many - 1 ≤ 9999
      · rcases t0 with e | e
        · have e7 := t1 e
          apply c_M_mean
          simp (disch := first | assumption | omega) only [rn, wk, al, wr_e, td_e, tm_e, mset_eq, mset_ne, if_pos, if_neg, Int.reduceAdd, Int.reduceSub, Int.reduceMul, Int.reduceNeg, Int.reduceLT, Int.reduceLE, Int.reduceEq, Int.cast_ofNat_Int, eq_self, and_true, true_and, ite_self, true_or, or_true, false_or, or_false, and_false, false_and, not_true_eq_false, not_false_eq_true, if_true, if_false, e_M_mean_0, e_M_mean_15, e_M_mean_16, e_M_mean_32, e_M_mean_33, e_M_mean_55, e_M_mean_61, e_M_mean_81, e_M_mean_138, e, q_deny]
          apply c_R_mean
          simp (disch := first | assumption | omega) only [rn, wk, al, wr_e, td_e, tm_e, mset_eq, mset_ne, if_pos, if_neg, Int.reduceAdd, Int.reduceSub, Int.reduceMul, Int.reduceNeg, Int.reduceLT, Int.reduceLE, Int.reduceEq, Int.cast_ofNat_Int, eq_self, and_true, true_and, ite_self, true_or, or_true, false_or, or_false, and_false, false_and, not_true_eq_false, not_false_eq_true, if_true, if_false, e_R_mean_0, e_R_mean_35, e_R_mean_41, e_R_mean_59, e_R_mean_90, e_R_mean_152, e_R_mean_158, q_isFrom, e7, q_is]
          exact inv_st 6 hi
        · obtain ⟨e7, b1, b2⟩ := t2 e
          have hx := lp_mn d s hi e sd many c1 c2 c3 (fun r t => CV (d + 30) 367 [137, sd, many] t fun r' u => r' = r ∧ Inv u) many.toNat 0 0 s (by omega) (by omega) (fun _ _ _ => rfl) (by omega) (fun t S f1 f2 f3 => by
            have qt := q_tell (d + 27) t S many (by omega) (by omega)
            obtain ⟨x, hx⟩ : ∃ x, x = S / eu 200 S many := ⟨_, rfl⟩
            obtain ⟨y, hy⟩ : ∃ y, y = many / eu 200 S many := ⟨_, rfl⟩
            rw [← hx, ← hy] at qt
            obtain ⟨b, hb⟩ : ∃ b, b = mset (mset (mset t 0 1 x) 0 2 y) 0 0 0 := ⟨_, rfl⟩
            have bf : ∀ c i, ¬ (c = 0 ∧ 0 ≤ i ∧ i ≤ 2) → b c i = t c i := fun c i hc => by rw [hb]; simp (disch := omega) only [mset_ne]
            have b7 : b 138 7 = s 49 2 := by rw [bf _ _ (by omega), f1 _ _ (by omega)]; exact e7
            have e0 : 0 + S = S := by omega
            rw [e_M_mean_138, e0]
            simp (disch := first | assumption | omega) only [rn, wk, al, wr_e, td_e, tm_e, mset_eq, mset_ne, if_pos, if_neg, Int.reduceAdd, Int.reduceSub, Int.reduceMul, Int.reduceNeg, Int.reduceLT, Int.reduceLE, Int.reduceEq, Int.cast_ofNat_Int, eq_self, and_true, true_and, ite_self, true_or, or_true, false_or, or_false, and_false, false_and, not_true_eq_false, not_false_eq_true, if_true, if_false, qt, q_grant, ← hb]
            have q1 := q_isFrom (d + 28) sd 0 9999 b
            rw [if_pos c1] at q1
            have q2 := q_isFrom (d + 28) many 1 20 b
            rw [if_pos c2] at q2
            have hcopy := lp_mn61 (d + 29) sd many (fun r' u => r' = 1 ∧ Inv u) b (fun u u1 u2 => by
              have hri : RI s b u := by
                refine ⟨fun c i b1 b2 b3 b4 b5 b6 => u1 c i (by omega), fun k hk => by rw [u2 k hk, bf _ _ (by omega)]; exact f1 _ _ (by omega), fun i => by rw [bf _ _ (by omega)]; exact f1 _ _ (by omega), fun i => by rw [bf _ _ (by omega)]; exact f1 _ _ (by omega)⟩
              have hgo := f3 b (fun r' u => r' = 1 ∧ Inv u) u 0 0 hri (by omega) (fun w z hw => by
                have qt2 := q_tellsBy (d + 27) w S many (by omega) (by omega)
                rw [← hx, ← hy] at qt2
                have hinv : Inv (mset (mset (mset w 137 3 x) 137 4 y) 137 2 0) := by
                  obtain ⟨r1, r2, r3, r4⟩ := hw
                  have G : ∀ c i, c ≠ 146 → c ≠ 147 → c ≠ 152 → c ≠ 153 → ¬ (c = 137 ∧ (i = 26 ∨ i = 27 ∨ i = 41 ∨ i = 42)) → ¬ (c = 138 ∧ (i < 0 ∨ (4340 ≤ i ∧ i < 4840))) → ¬ (c = 0 ∧ 0 ≤ i ∧ i ≤ 2) → ¬ (c = 12 ∨ c = 13 ∨ (57 ≤ c ∧ c ≤ 76)) → w c i = s c i := fun c i a1 a2 a3 a4 a5 a6 a7 a8 => by
                    rw [r1 c i a1 a2 a3 a4 a5 a6, bf c i a7]; exact f1 c i a8
                  have hfa := hi.2.1
                  unfold FA at hfa
                  have g0 : w 0 0 = 0 := by rw [r1 _ _ (by omega) (by omega) (by omega) (by omega) (by omega) (by omega), hb, mset_eq rfl rfl]
                  have g1 : w 0 1 = x := by rw [r1 _ _ (by omega) (by omega) (by omega) (by omega) (by omega) (by omega), hb, mset_ne (by omega), mset_ne (by omega), mset_eq rfl rfl]
                  have g2 : w 0 2 = y := by rw [r1 _ _ (by omega) (by omega) (by omega) (by omega) (by omega) (by omega), hb, mset_ne (by omega), mset_eq rfl rfl]
                  refine ⟨by rw [mset_eq rfl rfl, mset_ne (by omega), mset_ne (by omega), mset_ne (by omega), g0], ?_, keep_TR hi ?_, keep_TP hi ?_ ?_ ?_ ?_, ?_, keep_MK hi ?_ ?_ ?_ ?_⟩
                  · unfold FA
                    simp (disch := omega) only [mset_eq, mset_ne, g1, g2, G]
                    exact ⟨trivial, trivial, hfa.2.2⟩
                  · intro c i hc; simp (disch := omega) only [mset_ne, G]
                  · simp (disch := omega) only [mset_ne, G]
                  · simp (disch := omega) only [mset_ne, G]
                  · intro i; simp (disch := omega) only [mset_ne, G]
                  · intro i; simp (disch := omega) only [mset_ne, G]
                  · refine HR_congr (A := win s 37) (B := s 138) (N := s 139) ?_ ?_ ?_ hi.2.2.2.2.1
                    · intro k i hk _
                      show mset _ _ _ _ (37 + k) i = s (37 + k) i
                      simp (disch := omega) only [mset_ne, G]
                    · intro i _ _; simp (disch := omega) only [mset_ne, G]
                    · intro i _ _; simp (disch := omega) only [mset_ne, G]
                  · simp (disch := omega) only [mset_ne, G]
                  · intro c i hc; simp (disch := omega) only [mset_ne, G]
                  · intro i hc; simp (disch := omega) only [mset_ne, G]
                  · intro i hc; simp (disch := omega) only [mset_ne, G]
                rw [e_R_mean_95, e0]
                simp (disch := first | assumption | omega) only [rn, wk, al, wr_e, td_e, tm_e, mset_eq, mset_ne, if_pos, if_neg, Int.reduceAdd, Int.reduceSub, Int.reduceMul, Int.reduceNeg, Int.reduceLT, Int.reduceLE, Int.reduceEq, Int.cast_ofNat_Int, eq_self, and_true, true_and, ite_self, true_or, or_true, false_or, or_false, and_false, false_and, not_true_eq_false, not_false_eq_true, if_true, if_false, e_R_mean_0, e_R_mean_35, e_R_mean_41, e_R_mean_59, e_R_mean_90, e_R_mean_152, e_R_mean_158, qt2]
                exact hinv)
              rw [e_R_mean_90]
              simp (disch := first | assumption | omega) only [rn, wk, al, wr_e, td_e, tm_e, mset_eq, mset_ne, if_pos, if_neg, Int.reduceAdd, Int.reduceSub, Int.reduceMul, Int.reduceNeg, Int.reduceLT, Int.reduceLE, Int.reduceEq, Int.cast_ofNat_Int, eq_self, and_true, true_and, ite_self, true_or, or_true, false_or, or_false, and_false, false_and, not_true_eq_false, not_false_eq_true, if_true, if_false]
              exact hgo) 500 0 b (by omega) (by omega) (fun _ _ _ => rfl) (fun j hj => by omega)
            apply c_R_mean
            simp (disch := first | assumption | omega) only [rn, wk, al, wr_e, td_e, tm_e, mset_eq, mset_ne, if_pos, if_neg, Int.reduceAdd, Int.reduceSub, Int.reduceMul, Int.reduceNeg, Int.reduceLT, Int.reduceLE, Int.reduceEq, Int.cast_ofNat_Int, eq_self, and_true, true_and, ite_self, true_or, or_true, false_or, or_false, and_false, false_and, not_true_eq_false, not_false_eq_true, if_true, if_false, e_R_mean_0, e_R_mean_35, e_R_mean_41, e_R_mean_59, e_R_mean_90, e_R_mean_152, e_R_mean_158, q1, q2, b7]
            exact hcopy)
          apply c_M_mean
          simp (disch := first | assumption | omega) only [rn, wk, al, wr_e, td_e, tm_e, mset_eq, mset_ne, if_pos, if_neg, Int.reduceAdd, Int.reduceSub, Int.reduceMul, Int.reduceNeg, Int.reduceLT, Int.reduceLE, Int.reduceEq, Int.cast_ofNat_Int, eq_self, and_true, true_and, ite_self, true_or, or_true, false_or, or_false, and_false, false_and, not_true_eq_false, not_false_eq_true, if_true, if_false, e_M_mean_0, e_M_mean_15, e_M_mean_16, e_M_mean_32, e_M_mean_33, e_M_mean_55, e_M_mean_61, e_M_mean_81, e_M_mean_138, e]
          exact hx
      · have hm : CV (d + 30) 367 [137, sd, many] (mset s 0 0 1) fun r' u => r' = 0 ∧ Inv u := by
          have q1 := q_isFrom (d + 28) sd 0 9999 (mset s 0 0 1)
          rw [if_pos c1] at q1
          have q2 := q_isFrom (d + 28) many 1 20 (mset s 0 0 1)
          rw [if_pos c2] at q2
          apply c_R_mean
          simp (disch := first | assumption | omega) only [rn, wk, al, wr_e, td_e, tm_e, mset_eq, mset_ne, if_pos, if_neg, Int.reduceAdd, Int.reduceSub, Int.reduceMul, Int.reduceNeg, Int.reduceLT, Int.reduceLE, Int.reduceEq, Int.cast_ofNat_Int, eq_self, and_true, true_and, ite_self, true_or, or_true, false_or, or_false, and_false, false_and, not_true_eq_false, not_false_eq_true, if_true, if_false, e_R_mean_0, e_R_mean_35, e_R_mean_41, e_R_mean_59, e_R_mean_90, e_R_mean_152, e_R_mean_158, q1, q2, q_is]
          exact inv_st 1 hi
        apply c_M_mean
        simp (disch := first | assumption | omega) only [rn, wk, al, wr_e, td_e, tm_e, mset_eq, mset_ne, if_pos, if_neg, Int.reduceAdd, Int.reduceSub, Int.reduceMul, Int.reduceNeg, Int.reduceLT, Int.reduceLE, Int.reduceEq, Int.cast_ofNat_Int, eq_self, and_true, true_and, ite_self, true_or, or_true, false_or, or_false, and_false, false_and, not_true_eq_false, not_false_eq_true, if_true, if_false, e_M_mean_0, e_M_mean_15, e_M_mean_16, e_M_mean_32, e_M_mean_33, e_M_mean_55, e_M_mean_61, e_M_mean_81, e_M_mean_138, q_deny]
        exact hm
    · have hm : CV (d + 30) 367 [137, sd, many] (mset s 0 0 1) fun r' u => r' = 0 ∧ Inv u := by
        have q1 := q_isFrom (d + 28) sd 0 9999 (mset s 0 0 1)
        rw [if_pos c1] at q1
        have q2 := q_isFrom (d + 28) many 1 20 (mset s 0 0 1)
        rw [if_neg c2] at q2
        apply c_R_mean
        simp (disch := first | assumption | omega) only [rn, wk, al, wr_e, td_e, tm_e, mset_eq, mset_ne, if_pos, if_neg, Int.reduceAdd, Int.reduceSub, Int.reduceMul, Int.reduceNeg, Int.reduceLT, Int.reduceLE, Int.reduceEq, Int.cast_ofNat_Int, eq_self, and_true, true_and, ite_self, true_or, or_true, false_or, or_false, and_false, false_and, not_true_eq_false, not_false_eq_true, if_true, if_false, e_R_mean_0, e_R_mean_35, e_R_mean_41, e_R_mean_59, e_R_mean_90, e_R_mean_152, e_R_mean_158, q1, q2, q_is]
        exact inv_st 1 hi
      apply c_M_mean
      by_cases c0 : 1 ≤ many
      · simp (disch := first | assumption | omega) only [rn, wk, al, wr_e, td_e, tm_e, mset_eq, mset_ne, if_pos, if_neg, Int.reduceAdd, Int.reduceSub, Int.reduceMul, Int.reduceNeg, Int.reduceLT, Int.reduceLE, Int.reduceEq, Int.cast_ofNat_Int, eq_self, and_true, true_and, ite_self, true_or, or_true, false_or, or_false, and_false, false_and, not_true_eq_false, not_false_eq_true, if_true, if_false, e_M_mean_0, e_M_mean_15, e_M_mean_16, e_M_mean_32, e_M_mean_33, e_M_mean_55, e_M_mean_61, e_M_mean_81, e_M_mean_138, q_deny]
        exact hm
      · simp (disch := first | assumption | omega) only [rn, wk, al, wr_e, td_e, tm_e, mset_eq, mset_ne, if_pos, if_neg, Int.reduceAdd, Int.reduceSub, Int.reduceMul, Int.reduceNeg, Int.reduceLT, Int.reduceLE, Int.reduceEq, Int.cast_ofNat_Int, eq_self, and_true, true_and, ite_self, true_or, or_true, false_or, or_false, and_false, false_and, not_true_eq_false, not_false_eq_true, if_true, if_false, e_M_mean_0, e_M_mean_15, e_M_mean_16, e_M_mean_32, e_M_mean_33, e_M_mean_55, e_M_mean_61, e_M_mean_81, e_M_mean_138, q_deny]
        exact hm
  · have hm : CV (d + 30) 367 [137, sd, many] (mset s 0 0 1) fun r' u => r' = 0 ∧ Inv u := by
      have q1 := q_isFrom (d + 28) sd 0 9999 (mset s 0 0 1)
      rw [if_neg c1] at q1
      apply c_R_mean
      simp (disch := first | assumption | omega) only [rn, wk, al, wr_e, td_e, tm_e, mset_eq, mset_ne, if_pos, if_neg, Int.reduceAdd, Int.reduceSub, Int.reduceMul, Int.reduceNeg, Int.reduceLT, Int.reduceLE, Int.reduceEq, Int.cast_ofNat_Int, eq_self, and_true, true_and, ite_self, true_or, or_true, false_or, or_false, and_false, false_and, not_true_eq_false, not_false_eq_true, if_true, if_false, e_R_mean_0, e_R_mean_35, e_R_mean_41, e_R_mean_59, e_R_mean_90, e_R_mean_152, e_R_mean_158, q1, q_is]
      exact inv_st 1 hi
    apply c_M_mean
    by_cases c0 : 0 ≤ sd
    · by_cases c2 : 1 ≤ many ∧ many ≤ 20
      · simp (disch := first | assumption | omega) only [rn, wk, al, wr_e, td_e, tm_e, mset_eq, mset_ne, if_pos, if_neg, Int.reduceAdd, Int.reduceSub, Int.reduceMul, Int.reduceNeg, Int.reduceLT, Int.reduceLE, Int.reduceEq, Int.cast_ofNat_Int, eq_self, and_true, true_and, ite_self, true_or, or_true, false_or, or_false, and_false, false_and, not_true_eq_false, not_false_eq_true, if_true, if_false, e_M_mean_0, e_M_mean_15, e_M_mean_16, e_M_mean_32, e_M_mean_33, e_M_mean_55, e_M_mean_61, e_M_mean_81, e_M_mean_138, q_deny]
        exact hm
      · by_cases c4 : 1 ≤ many
        · simp (disch := first | assumption | omega) only [rn, wk, al, wr_e, td_e, tm_e, mset_eq, mset_ne, if_pos, if_neg, Int.reduceAdd, Int.reduceSub, Int.reduceMul, Int.reduceNeg, Int.reduceLT, Int.reduceLE, Int.reduceEq, Int.cast_ofNat_Int, eq_self, and_true, true_and, ite_self, true_or, or_true, false_or, or_false, and_false, false_and, not_true_eq_false, not_false_eq_true, if_true, if_false, e_M_mean_0, e_M_mean_15, e_M_mean_16, e_M_mean_32, e_M_mean_33, e_M_mean_55, e_M_mean_61, e_M_mean_81, e_M_mean_138, q_deny]
          exact hm
        · simp (disch := first | assumption | omega) only [rn, wk, al, wr_e, td_e, tm_e, mset_eq, mset_ne, if_pos, if_neg, Int.reduceAdd, Int.reduceSub, Int.reduceMul, Int.reduceNeg, Int.reduceLT, Int.reduceLE, Int.reduceEq, Int.cast_ofNat_Int, eq_self, and_true, true_and, ite_self, true_or, or_true, false_or, or_false, and_false, false_and, not_true_eq_false, not_false_eq_true, if_true, if_false, e_M_mean_0, e_M_mean_15, e_M_mean_16, e_M_mean_32, e_M_mean_33, e_M_mean_55, e_M_mean_61, e_M_mean_81, e_M_mean_138, q_deny]
          exact hm
    · by_cases c2 : 1 ≤ many ∧ many ≤ 20
      · simp (disch := first | assumption | omega) only [rn, wk, al, wr_e, td_e, tm_e, mset_eq, mset_ne, if_pos, if_neg, Int.reduceAdd, Int.reduceSub, Int.reduceMul, Int.reduceNeg, Int.reduceLT, Int.reduceLE, Int.reduceEq, Int.cast_ofNat_Int, eq_self, and_true, true_and, ite_self, true_or, or_true, false_or, or_false, and_false, false_and, not_true_eq_false, not_false_eq_true, if_true, if_false, e_M_mean_0, e_M_mean_15, e_M_mean_16, e_M_mean_32, e_M_mean_33, e_M_mean_55, e_M_mean_61, e_M_mean_81, e_M_mean_138, q_deny]
        exact hm
      · by_cases c4 : 1 ≤ many
        · simp (disch := first | assumption | omega) only [rn, wk, al, wr_e, td_e, tm_e, mset_eq, mset_ne, if_pos, if_neg, Int.reduceAdd, Int.reduceSub, Int.reduceMul, Int.reduceNeg, Int.reduceLT, Int.reduceLE, Int.reduceEq, Int.cast_ofNat_Int, eq_self, and_true, true_and, ite_self, true_or, or_true, false_or, or_false, and_false, false_and, not_true_eq_false, not_false_eq_true, if_true, if_false, e_M_mean_0, e_M_mean_15, e_M_mean_16, e_M_mean_32, e_M_mean_33, e_M_mean_55, e_M_mean_61, e_M_mean_81, e_M_mean_138, q_deny]
          exact hm
        · simp (disch := first | assumption | omega) only [rn, wk, al, wr_e, td_e, tm_e, mset_eq, mset_ne, if_pos, if_neg, Int.reduceAdd, Int.reduceSub, Int.reduceMul, Int.reduceNeg, Int.reduceLT, Int.reduceLE, Int.reduceEq, Int.cast_ofNat_Int, eq_self, and_true, true_and, ite_self, true_or, or_true, false_or, or_false, and_false, false_and, not_true_eq_false, not_false_eq_true, if_true, if_false, e_M_mean_0, e_M_mean_15, e_M_mean_16, e_M_mean_32, e_M_mean_33, e_M_mean_55, e_M_mean_61, e_M_mean_81, e_M_mean_138, q_deny]
          exact hm
