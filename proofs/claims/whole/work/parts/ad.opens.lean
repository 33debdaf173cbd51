/-! ===== H2: answers, the reference: opensAt ===== -/
def Fan (s u : Mem) : Prop := ∀ c i, ¬ (146 ≤ c ∧ c ≤ 151) → ¬ (c = 137 ∧ (i = 26 ∨ i = 27 ∨ (32 ≤ i ∧ i ≤ 36))) → u c i = s c i
/-- the reference in the midst of its search -/
def RNd (A s u : Mem) (P : List Ent) (so : Int) (N : Ntt) : Prop := Fan s u ∧ RB A u ∧ LF u ∧ (∀ x b, rng x b → u 147 (91 * x + b) = Lf A P x b) ∧ u 137 34 = so ∧ chr (u 149) (u 148) P ∧ NtR N u
theorem NtR_congr {N : Ntt} {s t : Mem} (h : ∀ i, (i = 32 ∨ i = 33 ∨ i = 35 ∨ i = 36) → t 137 i = s 137 i) (h1 : ∀ i, t 151 i = s 151 i) (hN : NtR N s) : NtR N t := by
  obtain ⟨a, b, c, e⟩ := hN
  have e1 : t 151 = s 151 := funext h1
  refine ⟨by rw [h 32 (by omega)]; exact a, by rw [h 33 (by omega)]; exact b, c, ?_⟩
  rw [h 35 (by omega), h 36 (by omega), e1]; exact e
theorem Lf_b {A : Mem} (hv : VB A) (hr : ∀ j, 0 ≤ j ∧ j < 364 → 0 ≤ A 10 j ∧ A 10 j ≤ 999) {x b : Int} (h : rng x b) : ∀ P, PW A P → -99 * (P.length : Int) ≤ Lf A P x b ∧ Lf A P x b ≤ 999
  | [], _ => by
    have e : iS (clls []) (fun v => pX A v x b) = 0 := sg_zero 315 0 _ (fun i _ _ => by
      show (if i ∈ clls [] then pX A i x b else 0) = 0
      rw [if_neg (by simp [clls])])
    have := hr (4 * b + x) (by have := h.1; have := h.2; omega)
    unfold Lf
    rw [e]
    have el : (([] : List Ent).length : Int) = 0 := rfl
    rw [el]; omega
  | e :: P, hP => by
    obtain ⟨i1, i2⟩ := Lf_b hv hr h P hP.1
    have el : ((e :: P).length : Int) = P.length + 1 := by simp
    have pb := pX_ok hv hP.2.1 (x := x) (b := b) h.1.1
    rw [Lf_cons hP.2, el]
    omega
theorem Lf_far {A : Mem} (hz : ∀ x b, A 0 3 ≤ x ∧ x < 4 → 0 ≤ b ∧ b < 91 → A 10 (4 * b + x) = 0) {P : List Ent} {x b : Int} (h : rng x b) (hx : A 0 3 ≤ x) : Lf A P x b = 0 := by
  have e : iS (clls P) (fun v => pX A v x b) = 0 := sg_zero 315 0 _ (fun i _ _ => by
    show (if i ∈ clls P then pX A i x b else 0) = 0
    unfold pX
    rw [if_neg (show ¬ (x < A 0 3) by omega), ite_self])
  unfold Lf
  rw [e, hz x b ⟨hx, h.1.2⟩ h.2]; rfl
theorem p1_nn (v : Int) : 0 ≤ p1_ v ∧ (p1_ v = 0 → v ≤ 0) := by unfold p1_; split <;> omega
theorem n1_nn (v : Int) : 0 ≤ n1_ v ∧ (n1_ v = 0 → 0 ≤ v) := by unfold n1_; split <;> omega
theorem cpos_z {f : Int → Int} (h : cpos f = 0) (j : Int) (hj : 0 ≤ j ∧ j < 364) : f j ≤ 0 := by
  have := (sg_nn (f := fun k => p1_ (f k)) 364 0 (fun i _ _ => (p1_nn (f i)).1)).2 h j (by omega) (by omega)
  exact (p1_nn (f j)).2 this
theorem cneg_z {f : Int → Int} (h : cneg f = 0) (j : Int) (hj : 0 ≤ j ∧ j < 364) : 0 ≤ f j := by
  have := (sg_nn (f := fun k => n1_ (f k)) 364 0 (fun i _ _ => (n1_nn (f i)).1)).2 h j (by omega) (by omega)
  exact (n1_nn (f j)).2 this
theorem cneg_zz {f : Int → Int} (h : ∀ j, 0 ≤ j ∧ j < 364 → 0 ≤ f j) : cneg f = 0 := sg_zero 364 0 _ (fun i _ _ => by
  show n1_ (f i) = 0
  have := h i (by omega)
  unfold n1_; rw [if_neg (by omega)])
theorem cpos_zz {f : Int → Int} (h : ∀ j, 0 ≤ j ∧ j < 364 → f j ≤ 0) : cpos f = 0 := sg_zero 364 0 _ (fun i _ _ => by
  show p1_ (f i) = 0
  have := h i (by omega)
  unfold p1_; rw [if_neg (by omega)])
def OpP (A s : Mem) (n so : Int) (P : List Ent) (N : Ntt) (r : Int) (t : Mem) : Prop := (r = 0 ∧ ∃ l, EN A n P l ∧ RNd A s t P so (l.foldl (nt so) N)) ∨ (r = 1 ∧ (P.length : Int) < n ∧ ∃ x b, rng x b ∧ x < A 0 3 ∧ 0 < Lf A P x b ∧ RNd A s t P so N ∧ t 148 P.length = 91 * x + b ∧ t 149 P.length = -1)
theorem lp_op (d : Nat) (u : Mem) (l n J : Int) (hJ : 0 ≤ J ∧ J < 364) (hn : u 147 J ≠ 0) (hz : ∀ j, 0 ≤ j ∧ j < J → u 147 j = 0) (Q : Int → Mem → Prop) (hQ : EV d o_R_opensAt 47 [] [137, l, n, J] u Q) : ∀ (m : Nat) (j : Int), 0 ≤ j → j + m = J → EV d o_R_opensAt 32 [] [137, l, n, j] u Q := by
  intro m
  induction m with
  | zero =>
    intro j h0 hj
    have ej : j = J := by omega
    subst ej
    rw [e_R_opensAt_32]
    simp (disch := first | assumption | omega) only [rn, wk, al, wr_e, td_e, tm_e, mset_eq, mset_ne, if_pos, if_neg, Int.reduceAdd, Int.reduceSub, Int.reduceMul, Int.reduceNeg, Int.reduceLT, Int.reduceLE, Int.reduceEq, Int.cast_ofNat_Int, eq_self, and_true, true_and, ite_self, true_or, or_true, false_or, or_false, and_false, false_and, not_true_eq_false, not_false_eq_true, if_true, if_false]
    exact hQ
  | succ m ih =>
    intro j h0 hj
    have e := hz j (by omega)
    have hx := ih (j + 1) (by omega) (by omega)
    rw [e_R_opensAt_32]
    simp (disch := first | assumption | omega) only [rn, wk, al, wr_e, td_e, tm_e, mset_eq, mset_ne, if_pos, if_neg, Int.reduceAdd, Int.reduceSub, Int.reduceMul, Int.reduceNeg, Int.reduceLT, Int.reduceLE, Int.reduceEq, Int.cast_ofNat_Int, eq_self, and_true, true_and, ite_self, true_or, or_true, false_or, or_false, and_false, false_and, not_true_eq_false, not_false_eq_true, if_true, if_false, e]
    exact hx
theorem q_opensAt (d : Nat) (A s u : Mem) (hr : ∀ j, 0 ≤ j ∧ j < 364 → 0 ≤ A 10 j ∧ A 10 j ≤ 999) (hz : ∀ x b, A 0 3 ≤ x ∧ x < 4 → 0 ≤ b ∧ b < 91 → A 10 (4 * b + x) = 0) (n so : Int) (hn : 0 ≤ n ∧ n ≤ 4) (P : List Ent) (hPl : (P.length : Int) ≤ n) (hP : PW A P) (N : Ntt) (hJ : RNd A s u P so N) : CV (d + 2) 322 [137, P.length, n] u (OpP A s n so P N) := by
  have hJ' := hJ
  obtain ⟨j1, j2, j3, j4, j5, j6, j7⟩ := hJ'
  have hv := j2.1
  obtain ⟨p1, p2⟩ := PW_nd P hP
  have cb := cneg_b (u 147)
  have cpb := cpos_b (u 147)
  have l1 := j3.1
  have l2 := j3.2
  have cell : ∀ j, 0 ≤ j ∧ j < 364 → rng (j / 91) (j % 91) ∧ u 147 j = Lf A P (j / 91) (j % 91) := fun j hj => by
    have hg : rng (j / 91) (j % 91) := ⟨by omega, by omega⟩
    have e := j4 _ _ hg
    rw [show 91 * (j / 91) + j % 91 = j by omega] at e
    exact ⟨hg, e⟩
  apply c_R_opensAt
  by_cases c1 : cneg (u 147) = 0
  · have hnn : ∀ x b, rng x b → 0 ≤ Lf A P x b := fun x b h => by
      rw [← j4 x b h]; exact cneg_z c1 _ (by have := h.1; have := h.2; omega)
    by_cases c2 : cpos (u 147) = 0
    · have h0 : ∀ x b, rng x b → Lf A P x b = 0 := fun x b h => by
        have := hnn x b h
        have := cpos_z c2 (91 * x + b) (by have := h.1; have := h.2; omega)
        rw [j4 x b h] at this
        omega
      simp (disch := first | assumption | omega) only [rn, wk, al, wr_e, td_e, tm_e, mset_eq, mset_ne, if_pos, if_neg, Int.reduceAdd, Int.reduceSub, Int.reduceMul, Int.reduceNeg, Int.reduceLT, Int.reduceLE, Int.reduceEq, Int.cast_ofNat_Int, eq_self, and_true, true_and, ite_self, true_or, or_true, false_or, or_false, and_false, false_and, not_true_eq_false, not_false_eq_true, if_true, if_false, e_R_opensAt_0, e_R_opensAt_9, e_R_opensAt_23, e_R_opensAt_30, e_R_opensAt_47, l1, l2, c1, c2]
      refine EV_call (CV_mono (q_finds d u N so P.length (by omega) (chs_ne P (chr_chs P j6) p1) j5 j7) ?_)
      rintro r t ⟨t1, t2, t3⟩
      have elen : ((tl (t 150) 0 ((P.length : Int)).toNat).length : Int) = P.length := by rw [tl_len]; omega
      have tc : ∀ c, (c = 138 ∨ c = 146 ∨ c = 147 ∨ c = 148 ∨ c = 149) → t c = u c := fun c hc => funext (fun i => t1 c i (by omega) (by omega) (by omega))
      have hp : RNd A s t P so ([tl (t 150) 0 ((P.length : Int)).toNat].foldl (nt so) N) := by
        refine ⟨fun c i k1 k2 => by rw [t1 c i (by omega) (by omega) (by omega)]; exact j1 c i k1 k2, RB_congr (tc 138 (by omega)) (tc 146 (by omega)) j2, ?_, fun x b h => by rw [tc 147 (by omega)]; exact j4 x b h, by rw [t1 _ _ (by omega) (by omega) (by omega)]; exact j5, by rw [tc 148 (by omega), tc 149 (by omega)]; exact j6, t3⟩
        unfold LF
        rw [t1 137 26 (by omega) (by omega) (by omega), t1 137 27 (by omega) (by omega) (by omega), tc 147 (by omega)]; exact j3
      have he : EN A n P [tl (t 150) 0 ((P.length : Int)).toNat] := by
        refine en_one (nd_leaf hv hP h0 (srt_tl _ 0 (fun i j a b c => t2.1 i j a b (by omega))) (fun v => ?_) (by omega))
        rw [mem_tl, ← chs_mem P (chr_chs P j6), ← t2.2 v]
        constructor
        · rintro ⟨j, a, b, c⟩; exact ⟨j, by omega, c⟩
        · rintro ⟨j, a, c⟩; exact ⟨j, by omega, by omega, c⟩
      have hq : OpP A s n so P N 0 t := Or.inl ⟨rfl, _, he, hp⟩
      simp (disch := first | assumption | omega) only [rn, wk, al, wr_e, td_e, tm_e, mset_eq, mset_ne, if_pos, if_neg, Int.reduceAdd, Int.reduceSub, Int.reduceMul, Int.reduceNeg, Int.reduceLT, Int.reduceLE, Int.reduceEq, Int.cast_ofNat_Int, eq_self, and_true, true_and, ite_self, true_or, or_true, false_or, or_false, and_false, false_and, not_true_eq_false, not_false_eq_true, if_true, if_false, e_R_opensAt_0, e_R_opensAt_9, e_R_opensAt_23, e_R_opensAt_30, e_R_opensAt_47]
      exact hq
    · have hex : ∃ j, (0 ≤ j ∧ j < 364) ∧ 0 < u 147 j := by
        by_cases c : ∃ j, (0 ≤ j ∧ j < 364) ∧ 0 < u 147 j
        · exact c
        · exact absurd (cpos_zz (fun j hj => by
            by_cases k : 0 < u 147 j
            · exact absurd ⟨j, hj, k⟩ c
            · omega)) c2
      obtain ⟨w, hw, hwp⟩ := hex
      obtain ⟨J, J0, ⟨J1, J2⟩, J3⟩ := least_ex (p := fun j => j < 364 ∧ 0 < u 147 j) 364 w hw.1 hw.2 ⟨hw.2, hwp⟩
      obtain ⟨hg, hge⟩ := cell J ⟨J0, J1⟩
      rw [hge] at J2
      by_cases c3 : (P.length : Int) = n
      · have hpost : EN A n P [] := en_nil (fun T hT => by have := nd_len hP hT hg J2; omega)
        have hq : OpP A s n so P N 0 u := Or.inl ⟨rfl, [], hpost, hJ⟩
        simp (disch := first | assumption | omega) only [rn, wk, al, wr_e, td_e, tm_e, mset_eq, mset_ne, if_pos, if_neg, Int.reduceAdd, Int.reduceSub, Int.reduceMul, Int.reduceNeg, Int.reduceLT, Int.reduceLE, Int.reduceEq, Int.cast_ofNat_Int, eq_self, and_true, true_and, ite_self, true_or, or_true, false_or, or_false, and_false, false_and, not_true_eq_false, not_false_eq_true, if_true, if_false, e_R_opensAt_0, e_R_opensAt_9, e_R_opensAt_23, e_R_opensAt_30, e_R_opensAt_47, l1, l2, c1]
        exact hq
      · have hx3 : J / 91 < A 0 3 := by
          by_cases c : J / 91 < A 0 3
          · exact c
          · have := Lf_far hz (P := P) hg (by omega); omega
        have hne : u 147 J ≠ 0 := by rw [hge]; omega
        have hz0 : ∀ j, 0 ≤ j ∧ j < J → u 147 j = 0 := fun j hj => by
          have a := cneg_z c1 j (by omega)
          by_cases k : 0 < u 147 j
          · have := J3 j hj.1 ⟨by omega, k⟩; omega
          · omega
        obtain ⟨y, hy⟩ : ∃ y, y = mset (mset u 148 P.length J) 149 P.length (-1) := ⟨_, rfl⟩
        have yf : ∀ c i, (c ≠ 148 ∧ c ≠ 149) → y c i = u c i := fun c i h => by rw [hy, mset_ne (by omega), mset_ne (by omega)]
        have yc : ∀ c, (c ≠ 148 ∧ c ≠ 149) → y c = u c := fun c h => funext (fun i => yf c i h)
        have hpost : RNd A s y P so N := by
          refine ⟨fun c i k1 k2 => by rw [yf c i (by omega)]; exact j1 c i k1 k2, RB_congr (yc 138 (by omega)) (yc 146 (by omega)) j2, ?_, fun x b h => by rw [yf _ _ (by omega)]; exact j4 x b h, by rw [yf _ _ (by omega)]; exact j5, chr_congr P (fun j hj => ⟨?_, ?_⟩) j6, NtR_congr (fun i _ => yf _ _ (by omega)) (fun i => yf _ _ (by omega)) j7⟩
          · unfold LF
            rw [yf 137 26 (by omega), yf 137 27 (by omega), yc 147 (by omega)]; exact j3
          · rw [hy, mset_ne (by omega), mset_ne (by omega)]
          · rw [hy, mset_ne (by omega), mset_ne (by omega)]
        have y8 : y 148 P.length = 91 * (J / 91) + J % 91 := by rw [hy, mset_ne (by omega), mset_eq rfl rfl]; omega
        have y9 : y 149 P.length = -1 := by rw [hy, mset_eq rfl rfl]
        have hl := lp_op (d + 1) u P.length n J ⟨J0, J1⟩ hne hz0 (OpP A s n so P N) (by
          have hq : OpP A s n so P N 1 y := Or.inr ⟨rfl, by omega, J / 91, J % 91, hg, hx3, J2, hpost, y8, y9⟩
          rw [e_R_opensAt_47]
          simp (disch := first | assumption | omega) only [rn, wk, al, wr_e, td_e, tm_e, mset_eq, mset_ne, if_pos, if_neg, Int.reduceAdd, Int.reduceSub, Int.reduceMul, Int.reduceNeg, Int.reduceLT, Int.reduceLE, Int.reduceEq, Int.cast_ofNat_Int, eq_self, and_true, true_and, ite_self, true_or, or_true, false_or, or_false, and_false, false_and, not_true_eq_false, not_false_eq_true, if_true, if_false, ← hy]
          exact hq) J.toNat 0 (by omega) (by omega)
        simp (disch := first | assumption | omega) only [rn, wk, al, wr_e, td_e, tm_e, mset_eq, mset_ne, if_pos, if_neg, Int.reduceAdd, Int.reduceSub, Int.reduceMul, Int.reduceNeg, Int.reduceLT, Int.reduceLE, Int.reduceEq, Int.cast_ofNat_Int, eq_self, and_true, true_and, ite_self, true_or, or_true, false_or, or_false, and_false, false_and, not_true_eq_false, not_false_eq_true, if_true, if_false, e_R_opensAt_0, e_R_opensAt_9, e_R_opensAt_23, e_R_opensAt_30, e_R_opensAt_47, l1, l2, c1]
        exact hl
  · have hex : ∃ x b, rng x b ∧ Lf A P x b < 0 := by
      by_cases c : ∃ x b, rng x b ∧ Lf A P x b < 0
      · exact c
      · exact absurd (cneg_zz (fun j hj => by
          obtain ⟨hg, hge⟩ := cell j hj
          rw [hge]
          by_cases k : Lf A P (j / 91) (j % 91) < 0
          · exact absurd ⟨_, _, hg, k⟩ c
          · omega)) c1
    obtain ⟨x, b, hg, hlt⟩ := hex
    have hpost : EN A n P [] := en_nil (fun T hT => by have := nd_le hv hT hg; omega)
    have hq : OpP A s n so P N 0 u := Or.inl ⟨rfl, [], hpost, hJ⟩
    simp (disch := first | assumption | omega) only [rn, wk, al, wr_e, td_e, tm_e, mset_eq, mset_ne, if_pos, if_neg, Int.reduceAdd, Int.reduceSub, Int.reduceMul, Int.reduceNeg, Int.reduceLT, Int.reduceLE, Int.reduceEq, Int.cast_ofNat_Int, eq_self, and_true, true_and, ite_self, true_or, or_true, false_or, or_false, and_false, false_and, not_true_eq_false, not_false_eq_true, if_true, if_false, e_R_opensAt_0, e_R_opensAt_9, e_R_opensAt_23, e_R_opensAt_30, e_R_opensAt_47, l1, l2]
    exact hq
