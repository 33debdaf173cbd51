/-! ===== H2: hall alike, the end ===== -/
/-- a memory in which the reference stands at the first token of the text -/
def ue (T : Int → Int) (n : Int) : Mem := fun c i => if c = 137 then (if i = 11 then n else if i = 13 then tkq T n 0 else if i = 14 then tke T n 0 else if i = 12 then kr (tkk T n 0) else if i = 15 then (if tkk T n 0 = 2 then dvT T n 0 else T (tkq T n 0)) else if i = 17 then -1 else 0) else if c = 144 then T i else if c = 138 then (if i = 3477 then 4 else if i = 3479 then -1 else 0) else 0
theorem ue_ok {T : Int → Int} {n : Int} (hT : TX T n) : Rs_ T n 0 (ue T n) := by
  have hn := hT.1
  refine ⟨by omega, ⟨rfl, rfl, rfl, rfl, fun h => ?_, fun h => ?_⟩, ⟨rfl, rfl⟩, fun i _ => rfl⟩
  · show (if tkk T n 0 = 2 then dvT T n 0 else T (tkq T n 0)) = _
    rw [if_pos h]
  · show (if tkk T n 0 = 2 then dvT T n 0 else T (tkq T n 0)) = _
    rw [if_neg (by omega)]
theorem h_init {T : Int → Int} {n : Int} {s u : Mem} (a0 : s 57 0 = 4) (a : ∀ i, 1 ≤ i ∧ i ≤ 6 → s 57 i = 0) (a12 : s 69 0 = 0) (a9 : s 9 1 = 0) (b : ∀ i, (0 ≤ i ∧ i < 868) → i ≠ 5 → i ≠ 7 → u 138 (3472 + i) = 0) (b5 : u 138 3477 = 4) (b7 : u 138 3479 = -1) (h20 : u 137 20 = 0) (hr : Rs_ T n 0 u) : RlH T n s u u 0 := ⟨HP_init a0 a a12 (fun i hi => b i (by omega) (by omega) (by omega)) b5 b7, hr, by rw [h20, a9], fun _ _ _ _ _ => rfl⟩
theorem q_readInto (d D : Nat) {T : Int → Int} {n : Int} (hT : TX T n) (s : Mem) (hs : Cs T n 0 s) : CV (d + 8) 22 [9, 57] s fun r t => ∃ s2, (∀ c i, ¬ (c = 57 ∧ 0 ≤ i ∧ i ≤ 6) → ¬ (c = 69 ∧ 0 ≤ i ∧ i ≤ 2) → ¬ (c = 9 ∧ i = 1) → s2 c i = s c i) ∧ (s2 57 0 = 4 ∧ (∀ i, 1 ≤ i ∧ i ≤ 6 → s2 57 i = 0) ∧ s2 69 0 = 0 ∧ s2 9 1 = 0) ∧ LpH D T n s2 0 r t := by
  have hn := hT.1
  apply c_HallReader_readInto
  simp (disch := first | assumption | omega) only [rn, wk, al, wr_e, td_e, tm_e, mset_eq, mset_ne, if_pos, if_neg, Int.reduceAdd, Int.reduceSub, Int.reduceMul, Int.reduceNeg, Int.reduceLT, Int.reduceLE, Int.reduceEq, Int.cast_ofNat_Int, eq_self, and_true, true_and, ite_self, true_or, or_true, false_or, or_false, and_false, false_and, not_true_eq_false, not_false_eq_true, if_true, if_false, e_HallReader_readInto_0, e_HallReader_readInto_46, e_HallReader_readInto_56, e_HallReader_readInto_62]
  refine EV_call (CV_mono (q_hallClear (d + 5) s) ?_)
  rintro r0 t0 ⟨f, c0, c1, c2⟩
  obtain ⟨s2, hs2⟩ : ∃ s2, s2 = mset t0 9 1 0 := ⟨_, rfl⟩
  have sf : ∀ c i, ¬ (c = 9 ∧ i = 1) → s2 c i = t0 c i := fun c i h => by rw [hs2, mset_ne (by omega)]
  have s9 : s2 9 1 = 0 := by rw [hs2, mset_eq rfl rfl]
  have z0 : s2 57 0 = 4 := by rw [sf _ _ (by omega)]; exact c0
  have z1 : ∀ i, 1 ≤ i ∧ i ≤ 6 → s2 57 i = 0 := fun i hi => by rw [sf _ _ (by omega)]; exact c1 i hi
  have z2 : s2 69 0 = 0 := by rw [sf _ _ (by omega)]; exact c2 0 (by omega)
  have hc : Cs T n 0 s2 := Cs_f (fun c i h => by rw [sf c i (by omega)]; exact f c i (by omega) (by omega)) hs
  have hx := lp_ri d D hT n.toNat 0 0 s2 (by omega) (by omega) (by omega) hc (Or.inl s9) ⟨ue T n, ue T n, h_init z0 z1 z2 s9 (fun i hi h5 h7 => by
    show (if 3472 + i = 3477 then (4 : Int) else if 3472 + i = 3479 then -1 else 0) = 0
    rw [if_neg (by omega), if_neg (by omega)]) rfl rfl rfl (ue_ok hT)⟩
  have hy : EV (d + 7) o_HallReader_readInto 11 [] [9, 57, 0] s2 fun r t => ∃ s2, (∀ c i, ¬ (c = 57 ∧ 0 ≤ i ∧ i ≤ 6) → ¬ (c = 69 ∧ 0 ≤ i ∧ i ≤ 2) → ¬ (c = 9 ∧ i = 1) → s2 c i = s c i) ∧ (s2 57 0 = 4 ∧ (∀ i, 1 ≤ i ∧ i ≤ 6 → s2 57 i = 0) ∧ s2 69 0 = 0 ∧ s2 9 1 = 0) ∧ LpH D T n s2 0 r t := EV_mono hx (fun r t ht => ⟨s2, fun c i g1 g2 g3 => by rw [sf c i g3]; exact f c i g1 g2, ⟨z0, z1, z2, s9⟩, ht⟩)
  simp (disch := first | assumption | omega) only [rn, wk, al, wr_e, td_e, tm_e, mset_eq, mset_ne, if_pos, if_neg, Int.reduceAdd, Int.reduceSub, Int.reduceMul, Int.reduceNeg, Int.reduceLT, Int.reduceLE, Int.reduceEq, Int.cast_ofNat_Int, eq_self, and_true, true_and, ite_self, true_or, or_true, false_or, or_false, and_false, false_and, not_true_eq_false, not_false_eq_true, if_true, if_false, ← hs2]
  exact hy
theorem q_taken0 (d : Nat) (v : Int) (u : Mem) (h : u 137 18 = 0) : sem (d + 2) 260 [137, v] u = some (v, mset (mset u 137 16 0) 137 2 0) := by
  apply CV_eq; apply c_R_taken
  simp (disch := first | assumption | omega) only [rn, wk, al, wr_e, td_e, tm_e, mset_eq, mset_ne, if_pos, if_neg, Int.reduceAdd, Int.reduceSub, Int.reduceMul, Int.reduceNeg, Int.reduceLT, Int.reduceLE, Int.reduceEq, Int.cast_ofNat_Int, eq_self, and_true, true_and, ite_self, true_or, or_true, false_or, or_false, and_false, false_and, not_true_eq_false, not_false_eq_true, if_true, if_false, e_R_taken_0, e_R_taken_24, e_R_taken_29, h, q_gives]
theorem q_taken1 (d : Nat) (v : Int) (u : Mem) (h : 0 < u 137 18) : sem (d + 2) 260 [137, v] u = some (-1, mset (mset u 137 16 (u 137 18)) 137 2 9) := by
  apply CV_eq; apply c_R_taken
  simp (disch := first | assumption | omega) only [rn, wk, al, wr_e, td_e, tm_e, mset_eq, mset_ne, if_pos, if_neg, Int.reduceAdd, Int.reduceSub, Int.reduceMul, Int.reduceNeg, Int.reduceLT, Int.reduceLE, Int.reduceEq, Int.cast_ofNat_Int, eq_self, and_true, true_and, ite_self, true_or, or_true, false_or, or_false, and_false, false_and, not_true_eq_false, not_false_eq_true, if_true, if_false, e_R_taken_0, e_R_taken_24, e_R_taken_29, q_refuse]
/-- the reference's way to its loop -/
theorem r_hallGo (d : Nat) {T : Int → Int} {n : Int} (hT : TX T n) (y : Mem) (h10 : n ≤ y 137 10) (h143 : ∀ i, 0 ≤ i ∧ i < n → y 143 i = T i) (G : Int → Mem → Prop) (K : ∀ u, (∀ c i, ¬ (c = 137 ∧ ((10 ≤ i ∧ i ≤ 15) ∨ (17 ≤ i ∧ i ≤ 20))) → c ≠ 144 → ¬ (c = 138 ∧ 3472 ≤ i ∧ i < 4340) → u c i = y c i) → u 137 10 = 0 → (∀ i, (0 ≤ i ∧ i < 868) → i ≠ 5 → i ≠ 7 → u 138 (3472 + i) = 0) → u 138 3477 = 4 → u 138 3479 = -1 → u 137 20 = 0 → Rs_ T n 0 u → EV (d + 29) o_R_hall 31 [] [137, n, 1, 0] u G) : CV (d + 30) 227 [137, n] y G := by
  have hn := hT.1
  apply c_R_hall
  simp (disch := first | assumption | omega) only [rn, wk, al, wr_e, td_e, tm_e, mset_eq, mset_ne, if_pos, if_neg, Int.reduceAdd, Int.reduceSub, Int.reduceMul, Int.reduceNeg, Int.reduceLT, Int.reduceLE, Int.reduceEq, Int.cast_ofNat_Int, eq_self, and_true, true_and, ite_self, true_or, or_true, false_or, or_false, and_false, false_and, not_true_eq_false, not_false_eq_true, if_true, if_false, e_R_hall_0, e_R_hall_17, e_R_hall_50, e_R_hall_88, e_R_hall_117]
  refine EV_call (CV_mono (q_begins (d + 26) 900 hT y h10 (by omega) h143) ?_)
  rintro r w ⟨e, w1, w2, w3, w4⟩
  subst e
  obtain ⟨x, hx⟩ : ∃ x, x = plainT w 3472 := ⟨_, rfl⟩
  have qp := q_plain (d + 28) 3472 (by omega) w
  rw [← hx] at qp
  have xf : ∀ c i, ¬ (c = 138 ∧ 3472 ≤ i ∧ i < 4340) → x c i = w c i := fun c i h => by
    rw [hx]; unfold plainT
    rw [mset_ne (by omega), mset_ne (by omega)]
    unfold zf
    by_cases hc : c = 138
    · rw [if_pos hc]
      show (if 3472 ≤ i ∧ i < 3472 + 868 then (0 : Int) else w 138 i) = w c i
      rw [if_neg (by omega), hc]
    · rw [if_neg hc]
  have xz : ∀ i, (0 ≤ i ∧ i < 868) → i ≠ 5 → i ≠ 7 → x 138 (3472 + i) = 0 := fun i hi h5 h7 => by
    rw [hx]; unfold plainT
    rw [mset_ne (by omega), mset_ne (by omega)]
    unfold zf
    rw [if_pos rfl]
    show (if 3472 ≤ 3472 + i ∧ 3472 + i < 3472 + 868 then (0 : Int) else w 138 (3472 + i)) = 0
    rw [if_pos (by omega)]
  have x5 : x 138 3477 = 4 := by rw [hx]; unfold plainT; rw [mset_ne (by omega), mset_eq rfl (by omega)]
  have x7 : x 138 3479 = -1 := by rw [hx]; unfold plainT; rw [mset_eq rfl (by omega)]
  obtain ⟨z, hz⟩ : ∃ z, z = mset x 137 20 0 := ⟨_, rfl⟩
  have zf_ : ∀ c i, ¬ (c = 137 ∧ i = 20) → z c i = x c i := fun c i h => by rw [hz, mset_ne (by omega)]
  have hq := K z (fun c i g1 g2 g3 => by rw [zf_ c i (by omega), xf c i g3]; exact w4 c i (by omega) g2) (by rw [zf_ _ _ (by omega), xf _ _ (by omega)]; exact w2) (fun i hi h5 h7 => by rw [zf_ _ _ (by omega)]; exact xz i hi h5 h7) (by rw [zf_ _ _ (by omega)]; exact x5) (by rw [zf_ _ _ (by omega)]; exact x7) (by rw [hz, mset_eq rfl rfl]) (Rs_w (fun i _ => by rw [zf_ _ _ (by omega)]; exact xf _ _ (by omega)) (fun i => by rw [zf_ _ _ (by omega)]; exact xf _ _ (by omega)) w1)
  simp (disch := first | assumption | omega) only [rn, wk, al, wr_e, td_e, tm_e, mset_eq, mset_ne, if_pos, if_neg, Int.reduceAdd, Int.reduceSub, Int.reduceMul, Int.reduceNeg, Int.reduceLT, Int.reduceLE, Int.reduceEq, Int.cast_ofNat_Int, eq_self, and_true, true_and, ite_self, true_or, or_true, false_or, or_false, and_false, false_and, not_true_eq_false, not_false_eq_true, if_true, if_false, e_R_hall_0, e_R_hall_17, e_R_hall_50, e_R_hall_88, e_R_hall_117, qp, ← hz]
  exact hq
theorem ak_hall (d : Nat) (n : Int) : Ak (d + 30) 20 227 [n] := by
  apply ak_of; intro s hi
  have htp := hi.2.2.2.1
  unfold TP at htp
  obtain ⟨p1, p2, p3⟩ := htp
  have hfa := hi.2.1
  unfold FA at hfa
  by_cases c1 : 0 ≤ n ∧ n ≤ s 7 1
  · have hT : TX (s 8) n := ⟨by omega, fun i hi => (p3 i (by omega)).2⟩
    obtain ⟨s1, hs1⟩ : ∃ s1, s1 = mset (mset (mset (mset (mset s 7 1 0) 7 2 n) 7 3 0) 7 8 0) 7 9 (-1) := ⟨_, rfl⟩
    have f1 : ∀ c i, ¬ (c = 7 ∧ (i = 1 ∨ i = 2 ∨ i = 3 ∨ i = 8 ∨ i = 9)) → s1 c i = s c i := fun c i h => by rw [hs1]; simp (disch := omega) only [mset_ne]
    have g1 : s1 7 1 = 0 := by rw [hs1]; simp (disch := omega) only [mset_ne, mset_eq]
    have g8 : s1 7 8 = 0 := by rw [hs1]; simp (disch := omega) only [mset_ne, mset_eq]
    have g9 : s1 7 9 = -1 := by rw [hs1, mset_eq rfl rfl]
    have hc1 : Cs (s 8) n 0 s1 := ⟨by omega, by rw [hs1]; simp (disch := omega) only [mset_ne, mset_eq], by rw [hs1]; simp (disch := omega) only [mset_ne, mset_eq], fun i _ => f1 _ _ (by omega)⟩
    have qb := q_Tbegin (d + 28) n s
    rw [← hs1] at qb
    apply c_M_hall
    simp (disch := first | assumption | omega) only [rn, wk, al, wr_e, td_e, tm_e, mset_eq, mset_ne, if_pos, if_neg, Int.reduceAdd, Int.reduceSub, Int.reduceMul, Int.reduceNeg, Int.reduceLT, Int.reduceLE, Int.reduceEq, Int.cast_ofNat_Int, eq_self, and_true, true_and, ite_self, true_or, or_true, false_or, or_false, and_false, false_and, not_true_eq_false, not_false_eq_true, if_true, if_false, e_M_hall_0, e_M_hall_15, e_M_hall_21, e_M_hall_52, qb]
    refine EV_call (CV_mono (q_readInto (d + 21) (d + 21) hT s1 hc1) ?_)
    rintro r t ⟨s2, f2, ⟨i0, i1, i2, i3⟩, f3, hL⟩
    have tf : ∀ c i, ¬ (c = 7 ∧ 1 ≤ i ∧ i ≤ 9) → ¬ (c = 9 ∧ i = 1) → ¬ (57 ≤ c ∧ c ≤ 76) → t c i = s c i := fun c i h1 h2 h3 => by rw [f3 c i (by omega) h2 h3, f2 c i (by omega) (by omega) h2]; exact f1 c i (by omega)
    have t71 : t 7 1 = 0 := by rw [f3 _ _ (by omega) (by omega) (by omega), f2 _ _ (by omega) (by omega) (by omega)]; exact g1
    rcases hL with ⟨e, e8, ⟨z6, z0⟩, K⟩ | ⟨e, e8, K⟩
    · subst e
      have t8 : t 7 8 = 0 := by rw [e8.1, f2 _ _ (by omega) (by omega) (by omega)]; exact g8
      have t9 : t 7 9 = -1 := by rw [e8.2, f2 _ _ (by omega) (by omega) (by omega)]; exact g9
      simp (disch := first | assumption | omega) only [rn, wk, al, wr_e, td_e, tm_e, mset_eq, mset_ne, if_pos, if_neg, Int.reduceAdd, Int.reduceSub, Int.reduceMul, Int.reduceNeg, Int.reduceLT, Int.reduceLE, Int.reduceEq, Int.cast_ofNat_Int, eq_self, and_true, true_and, ite_self, true_or, or_true, false_or, or_false, and_false, false_and, not_true_eq_false, not_false_eq_true, if_true, if_false, e_M_hall_0, e_M_hall_15, e_M_hall_21, e_M_hall_52]
      refine EV_call (CV_mono (q_takeFrom (d + 27) isH37 isH57 (by omega) t (Or.inl z0) (Or.inl z6)) ?_)
      rintro r3 t3 ⟨k1, k2⟩
      have t34 : t3 37 4 = t 57 4 := k1 0 4 (by omega) ⟨by omega, show (4 : Int) < 7 by omega⟩
      have tot : ∀ c i, ¬ (c = 7 ∧ 1 ≤ i ∧ i ≤ 9) → ¬ (c = 9 ∧ i = 1) → ¬ (37 ≤ c ∧ c ≤ 76) → t3 c i = s c i := fun c i h1 h2 h3 => by rw [k2 c i (by omega)]; exact tf c i h1 h2 (by omega)
      have t371 : t3 7 1 = 0 := by rw [k2 _ _ (by omega)]; exact t71
      have t378 : t3 7 8 = 0 := by rw [k2 _ _ (by omega)]; exact t8
      have t379 : t3 7 9 = -1 := by rw [k2 _ _ (by omega)]; exact t9
      simp (disch := first | assumption | omega) only [rn, wk, al, wr_e, td_e, tm_e, mset_eq, mset_ne, if_pos, if_neg, Int.reduceAdd, Int.reduceSub, Int.reduceMul, Int.reduceNeg, Int.reduceLT, Int.reduceLE, Int.reduceEq, Int.cast_ofNat_Int, eq_self, and_true, true_and, ite_self, true_or, or_true, false_or, or_false, and_false, false_and, not_true_eq_false, not_false_eq_true, if_true, if_false, q_pass, t34]
      refine r_hallGo d hT (mset t3 0 0 0) (by rw [mset_ne (by omega), tot _ _ (by omega) (by omega) (by omega)]; omega) (fun i hi => by rw [mset_ne (by omega), tot _ _ (by omega) (by omega) (by omega)]; exact (p3 i (by omega)).1) _ (fun u uf u10 uz u5 u7 u20 ur => ?_)
      refine K u u _ (h_init i0 i1 i2 i3 uz u5 u7 u20 ur) (fun w hw wf w18 => ?_)
      have w4 : w 138 3475 = t 57 4 := hw.2.1.2.2.2.1
      have hcp := lp_h59 (d + 29) n 1 w (fun r' u => r' = t 57 4 ∧ Inv u) (fun x x1 x2 => by
        have hn9 := lp_h90 (d + 29) n 1 x (fun r' u => r' = t 57 4 ∧ Inv u) (fun y y1 y2 => by
          have y18 : y 137 18 = 0 := by rw [y1 _ _ (by omega), x1 _ _ (by omega)]; exact w18.1
          have y3 : y 138 3 = t 57 4 := by rw [y1 _ _ (by omega), x2 3 (by omega)]; exact w4
          have qt := q_taken0 (d + 27) (t 57 4) y y18
          have hinv : Inv (mset (mset y 137 16 0) 137 2 0) := by
            obtain ⟨z, hz⟩ : ∃ z, z = mset (mset y 137 16 0) 137 2 0 := ⟨_, rfl⟩
            have zf_ : ∀ c i, ¬ (c = 137 ∧ (i = 16 ∨ i = 2)) → z c i = y c i := fun c i h => by rw [hz]; simp (disch := omega) only [mset_ne]
            have G0 : ∀ c i, ¬ (c = 137 ∧ (i = 16 ∨ i = 2 ∨ (10 ≤ i ∧ i ≤ 15) ∨ (17 ≤ i ∧ i ≤ 20))) → c ≠ 144 → ¬ (c = 138 ∧ ((0 ≤ i ∧ i < 868) ∨ (3472 ≤ i ∧ i < 4340))) → ¬ (c = 139 ∧ ((0 ≤ i ∧ i < 16) ∨ (64 ≤ i ∧ i < 80))) → z c i = mset t3 0 0 0 c i := fun c i h1 h2 h3 h4 => by
              rw [zf_ c i (by omega), y1 c i (by omega), x1 c i (by omega), wf c i (by omega) (by omega) (by omega)]
              exact uf c i (by omega) h2 (by omega)
            have G1 : ∀ c i, ¬ (c = 137 ∧ (i = 16 ∨ i = 2 ∨ (10 ≤ i ∧ i ≤ 15) ∨ (17 ≤ i ∧ i ≤ 20))) → c ≠ 144 → ¬ (c = 138 ∧ ((0 ≤ i ∧ i < 868) ∨ (3472 ≤ i ∧ i < 4340))) → ¬ (c = 139 ∧ ((0 ≤ i ∧ i < 16) ∨ (64 ≤ i ∧ i < 80))) → ¬ (c = 0 ∧ i = 0) → ¬ (c = 7 ∧ 1 ≤ i ∧ i ≤ 9) → ¬ (c = 9 ∧ i = 1) → ¬ (37 ≤ c ∧ c ≤ 76) → z c i = s c i := fun c i h1 h2 h3 h4 h5 h6 h7 h8 => by
              rw [G0 c i h1 h2 h3 h4, mset_ne h5]; exact tot c i h6 h7 h8
            have G7 : ∀ i, z 7 i = t3 7 i := fun i => by rw [G0 _ _ (by omega) (by omega) (by omega) (by omega), mset_ne (by omega)]
            have z10 : z 137 10 = 0 := by rw [zf_ _ _ (by omega), y1 _ _ (by omega), x1 _ _ (by omega), wf _ _ (by omega) (by omega) (by omega)]; exact u10
            have z17 : z 137 17 = -1 := by rw [zf_ _ _ (by omega), y1 _ _ (by omega), x1 _ _ (by omega)]; exact w18.2
            have z16 : z 137 16 = 0 := by rw [hz, mset_ne (by omega), mset_eq rfl rfl]
            have z2 : z 137 2 = 0 := by rw [hz, mset_eq rfl rfl]
            have z00 : z 0 0 = 0 := by rw [G0 _ _ (by omega) (by omega) (by omega) (by omega), mset_eq rfl rfl]
            rw [← hz]
            refine ⟨by rw [z2, z00], ?_, keep_TR hi ?_, ?_, ?_, keep_MK hi ?_ ?_ ?_ ?_⟩
            · unfold FA
              rw [z16, z17, G7 8, G7 9, t378, t379]
              simp (disch := omega) only [G1]
              exact ⟨hfa.1, hfa.2.1, hfa.2.2.1, trivial, trivial, hfa.2.2.2.2.2.1, hfa.2.2.2.2.2.2⟩
            · intro c i hc; exact G1 c i (by omega) (by omega) (by omega) (by omega) (by omega) (by omega) (by omega) (by omega)
            · unfold TP
              rw [z10, G7 1, t371]
              exact ⟨rfl, by omega, fun i hi => by omega⟩
            · refine HR_congr (A := win t 57) (B := fun i => w 138 (3472 + i)) (N := fun i => w 139 (64 + i)) ?_ ?_ ?_ hw
              · intro k i hk hl
                show z (37 + k) i = t (57 + k) i
                rw [G0 _ _ (by omega) (by omega) (by omega) (by omega), mset_ne (by omega)]; exact k1 k i hk hl
              · intro i h0 h8
                rw [zf_ _ _ (by omega), y1 _ _ (by omega)]; exact x2 i ⟨h0, h8⟩
              · intro i h0 h8
                rw [zf_ _ _ (by omega), y2 i ⟨h0, h8⟩, x1 _ _ (by omega)]
            · exact G1 _ _ (by omega) (by omega) (by omega) (by omega) (by omega) (by omega) (by omega) (by omega)
            · intro c i hc; exact G1 _ _ (by omega) (by omega) (by omega) (by omega) (by omega) (by omega) (by omega) (by omega)
            · intro i hc; exact G1 _ _ (by omega) (by omega) (by omega) (by omega) (by omega) (by omega) (by omega) (by omega)
            · intro i hc; exact G1 _ _ (by omega) (by omega) (by omega) (by omega) (by omega) (by omega) (by omega) (by omega)
          rw [e_R_hall_117]
          simp (disch := first | assumption | omega) only [rn, wk, al, wr_e, td_e, tm_e, mset_eq, mset_ne, if_pos, if_neg, Int.reduceAdd, Int.reduceSub, Int.reduceMul, Int.reduceNeg, Int.reduceLT, Int.reduceLE, Int.reduceEq, Int.cast_ofNat_Int, eq_self, and_true, true_and, ite_self, true_or, or_true, false_or, or_false, and_false, false_and, not_true_eq_false, not_false_eq_true, if_true, if_false, y3, qt]
          exact hinv) 16 0 x (by omega) (by omega) (fun _ _ _ => rfl) (fun i hi => by omega)
        rw [e_R_hall_88]
        simp (disch := first | assumption | omega) only [rn, wk, al, wr_e, td_e, tm_e, mset_eq, mset_ne, if_pos, if_neg, Int.reduceAdd, Int.reduceSub, Int.reduceMul, Int.reduceNeg, Int.reduceLT, Int.reduceLE, Int.reduceEq, Int.cast_ofNat_Int, eq_self, and_true, true_and, ite_self, true_or, or_true, false_or, or_false, and_false, false_and, not_true_eq_false, not_false_eq_true, if_true, if_false]
        exact hn9) 868 0 w (by omega) (by omega) (fun _ _ _ => rfl) (fun i hi => by omega)
      have w18' := w18.1
      rw [e_R_hall_50]
      simp (disch := first | assumption | omega) only [rn, wk, al, wr_e, td_e, tm_e, mset_eq, mset_ne, if_pos, if_neg, Int.reduceAdd, Int.reduceSub, Int.reduceMul, Int.reduceNeg, Int.reduceLT, Int.reduceLE, Int.reduceEq, Int.cast_ofNat_Int, eq_self, and_true, true_and, ite_self, true_or, or_true, false_or, or_false, and_false, false_and, not_true_eq_false, not_false_eq_true, if_true, if_false, w18']
      exact hcp
    · subst e
      simp (disch := first | assumption | omega) only [rn, wk, al, wr_e, td_e, tm_e, mset_eq, mset_ne, if_pos, if_neg, Int.reduceAdd, Int.reduceSub, Int.reduceMul, Int.reduceNeg, Int.reduceLT, Int.reduceLE, Int.reduceEq, Int.cast_ofNat_Int, eq_self, and_true, true_and, ite_self, true_or, or_true, false_or, or_false, and_false, false_and, not_true_eq_false, not_false_eq_true, if_true, if_false, e_M_hall_0, e_M_hall_15, e_M_hall_21, e_M_hall_52, q_fail]
      refine r_hallGo d hT (mset t 0 0 9) (by rw [mset_ne (by omega), tf _ _ (by omega) (by omega) (by omega)]; omega) (fun i hi => by rw [mset_ne (by omega), tf _ _ (by omega) (by omega) (by omega)]; exact (p3 i (by omega)).1) _ (fun u uf u10 uz u5 u7 u20 ur => ?_)
      refine K u u _ (h_init i0 i1 i2 i3 uz u5 u7 u20 ur) (fun w hw => ?_)
      obtain ⟨-, wf, w18, w17⟩ := hw
      have w18p : 0 < w 137 18 := by rw [w18]; exact e8
      have qt := q_taken1 (d + 27) (w 138 3) w w18p
      have hinv : Inv (mset (mset w 137 16 (w 137 18)) 137 2 9) := by
        obtain ⟨z, hz⟩ : ∃ z, z = mset (mset w 137 16 (w 137 18)) 137 2 9 := ⟨_, rfl⟩
        have zf_ : ∀ c i, ¬ (c = 137 ∧ (i = 16 ∨ i = 2)) → z c i = w c i := fun c i h => by rw [hz]; simp (disch := omega) only [mset_ne]
        have G0 : ∀ c i, ¬ (c = 137 ∧ (i = 16 ∨ i = 2 ∨ (10 ≤ i ∧ i ≤ 15) ∨ (17 ≤ i ∧ i ≤ 20))) → c ≠ 144 → ¬ (c = 138 ∧ 3472 ≤ i ∧ i < 4340) → ¬ (c = 139 ∧ 64 ≤ i ∧ i < 80) → z c i = mset t 0 0 9 c i := fun c i h1 h2 h3 h4 => by
          rw [zf_ c i (by omega), wf c i (by omega) h3 h4]
          exact uf c i (by omega) h2 h3
        have G1 : ∀ c i, ¬ (c = 137 ∧ (i = 16 ∨ i = 2 ∨ (10 ≤ i ∧ i ≤ 15) ∨ (17 ≤ i ∧ i ≤ 20))) → c ≠ 144 → ¬ (c = 138 ∧ 3472 ≤ i ∧ i < 4340) → ¬ (c = 139 ∧ 64 ≤ i ∧ i < 80) → ¬ (c = 0 ∧ i = 0) → ¬ (c = 7 ∧ 1 ≤ i ∧ i ≤ 9) → ¬ (c = 9 ∧ i = 1) → ¬ (57 ≤ c ∧ c ≤ 76) → z c i = s c i := fun c i h1 h2 h3 h4 h5 h6 h7 h8 => by
          rw [G0 c i h1 h2 h3 h4, mset_ne h5]; exact tf c i h6 h7 h8
        have G7 : ∀ i, z 7 i = t 7 i := fun i => by rw [G0 _ _ (by omega) (by omega) (by omega) (by omega), mset_ne (by omega)]
        have z10 : z 137 10 = 0 := by rw [zf_ _ _ (by omega), wf _ _ (by omega) (by omega) (by omega)]; exact u10
        have z17 : z 137 17 = t 7 9 := by rw [zf_ _ _ (by omega)]; exact w17
        have z16 : z 137 16 = t 7 8 := by rw [hz, mset_ne (by omega), mset_eq rfl rfl]; exact w18
        have z2 : z 137 2 = 9 := by rw [hz, mset_eq rfl rfl]
        have z00 : z 0 0 = 9 := by rw [G0 _ _ (by omega) (by omega) (by omega) (by omega), mset_eq rfl rfl]
        rw [← hz]
        refine ⟨by rw [z2, z00], ?_, keep_TR hi ?_, ?_, keep_HR hi ?_ ?_ ?_, keep_MK hi ?_ ?_ ?_ ?_⟩
        · unfold FA
          rw [z16, z17, G7 8, G7 9]
          simp (disch := omega) only [G1]
          exact ⟨hfa.1, hfa.2.1, hfa.2.2.1, trivial, trivial, hfa.2.2.2.2.2.1, hfa.2.2.2.2.2.2⟩
        · intro c i hc; exact G1 c i (by omega) (by omega) (by omega) (by omega) (by omega) (by omega) (by omega) (by omega)
        · unfold TP
          rw [z10, G7 1, t71]
          exact ⟨rfl, by omega, fun i hi => by omega⟩
        · intros; exact G1 _ _ (by omega) (by omega) (by omega) (by omega) (by omega) (by omega) (by omega) (by omega)
        · intros; exact G1 _ _ (by omega) (by omega) (by omega) (by omega) (by omega) (by omega) (by omega) (by omega)
        · intros; exact G1 _ _ (by omega) (by omega) (by omega) (by omega) (by omega) (by omega) (by omega) (by omega)
        · exact G1 _ _ (by omega) (by omega) (by omega) (by omega) (by omega) (by omega) (by omega) (by omega)
        · intro c i hc; exact G1 _ _ (by omega) (by omega) (by omega) (by omega) (by omega) (by omega) (by omega) (by omega)
        · intro i hc; exact G1 _ _ (by omega) (by omega) (by omega) (by omega) (by omega) (by omega) (by omega) (by omega)
        · intro i hc; exact G1 _ _ (by omega) (by omega) (by omega) (by omega) (by omega) (by omega) (by omega) (by omega)
      have w18n : ¬ w 137 18 = 0 := by omega
      rw [e_R_hall_50]
      simp (disch := first | assumption | omega) only [rn, wk, al, wr_e, td_e, tm_e, mset_eq, mset_ne, if_pos, if_neg, Int.reduceAdd, Int.reduceSub, Int.reduceMul, Int.reduceNeg, Int.reduceLT, Int.reduceLE, Int.reduceEq, Int.cast_ofNat_Int, eq_self, and_true, true_and, ite_self, true_or, or_true, false_or, or_false, and_false, false_and, not_true_eq_false, not_false_eq_true, if_true, if_false, e_R_hall_0, e_R_hall_17, e_R_hall_50, e_R_hall_88, e_R_hall_117, w18n, qt]
      exact hinv
  · have hb : sem (d + 29) 228 [137, n, 900] (mset s 0 0 1) = some (0, mset s 0 0 1) := by
      apply CV_eq; apply c_R_begins
      have e10 : mset s 0 0 1 137 10 = s 7 1 := by rw [mset_ne (by omega)]; exact p1
      by_cases c0 : 0 ≤ n
      · simp (disch := first | assumption | omega) only [rn, wk, al, wr_e, td_e, tm_e, mset_eq, mset_ne, if_pos, if_neg, Int.reduceAdd, Int.reduceSub, Int.reduceMul, Int.reduceNeg, Int.reduceLT, Int.reduceLE, Int.reduceEq, Int.cast_ofNat_Int, eq_self, and_true, true_and, ite_self, true_or, or_true, false_or, or_false, and_false, false_and, not_true_eq_false, not_false_eq_true, if_true, if_false, e_R_begins_0, e_R_begins_17, e_R_begins_19, e_R_begins_49, e10]
      · simp (disch := first | assumption | omega) only [rn, wk, al, wr_e, td_e, tm_e, mset_eq, mset_ne, if_pos, if_neg, Int.reduceAdd, Int.reduceSub, Int.reduceMul, Int.reduceNeg, Int.reduceLT, Int.reduceLE, Int.reduceEq, Int.cast_ofNat_Int, eq_self, and_true, true_and, ite_self, true_or, or_true, false_or, or_false, and_false, false_and, not_true_eq_false, not_false_eq_true, if_true, if_false, e_R_begins_0, e_R_begins_17, e_R_begins_19, e_R_begins_49, e10]
    have hm : CV (d + 30) 227 [137, n] (mset s 0 0 1) fun r' u => r' = -1 ∧ Inv u := by
      apply c_R_hall
      simp (disch := first | assumption | omega) only [rn, wk, al, wr_e, td_e, tm_e, mset_eq, mset_ne, if_pos, if_neg, Int.reduceAdd, Int.reduceSub, Int.reduceMul, Int.reduceNeg, Int.reduceLT, Int.reduceLE, Int.reduceEq, Int.cast_ofNat_Int, eq_self, and_true, true_and, ite_self, true_or, or_true, false_or, or_false, and_false, false_and, not_true_eq_false, not_false_eq_true, if_true, if_false, e_R_hall_0, e_R_hall_17, e_R_hall_50, e_R_hall_88, e_R_hall_117, hb, q_refuse]
      exact inv_st 1 hi
    apply c_M_hall
    by_cases c0 : 0 ≤ n
    · simp (disch := first | assumption | omega) only [rn, wk, al, wr_e, td_e, tm_e, mset_eq, mset_ne, if_pos, if_neg, Int.reduceAdd, Int.reduceSub, Int.reduceMul, Int.reduceNeg, Int.reduceLT, Int.reduceLE, Int.reduceEq, Int.cast_ofNat_Int, eq_self, and_true, true_and, ite_self, true_or, or_true, false_or, or_false, and_false, false_and, not_true_eq_false, not_false_eq_true, if_true, if_false, e_M_hall_0, e_M_hall_15, e_M_hall_21, e_M_hall_52, q_fail]
      exact hm
    · simp (disch := first | assumption | omega) only [rn, wk, al, wr_e, td_e, tm_e, mset_eq, mset_ne, if_pos, if_neg, Int.reduceAdd, Int.reduceSub, Int.reduceMul, Int.reduceNeg, Int.reduceLT, Int.reduceLE, Int.reduceEq, Int.cast_ofNat_Int, eq_self, and_true, true_and, ite_self, true_or, or_true, false_or, or_false, and_false, false_and, not_true_eq_false, not_false_eq_true, if_true, if_false, e_M_hall_0, e_M_hall_15, e_M_hall_21, e_M_hall_52, q_fail]
      exact hm
