/-! ===== H2: the class finds answers ===== -/
theorem sr_leaf (D : Nat) (A s : Mem) (hv : VB A) (n so M : Int) (hn : 0 ≤ n ∧ n ≤ 4) (hM : 1 ≤ M) (P : List Ent) (hPl : (P.length : Int) ≤ n) (hP : PW A P) (hLb : LB A P) (f h : Int) (N : Ntt) (hNb : Nb N M) (hJ : CJ A s P n so) (hN : NtC N s) (hz : sum2 (Lf A P) = 0) : CV (D + 3) 144 [14, P.length, f, h] s fun _ t => Spost A s t P n so N M := by
  obtain ⟨j1, j2, j3, j4, j5, j6, j7⟩ := hJ
  obtain ⟨b1, b2, b3⟩ := hNb
  obtain ⟨p1, p2⟩ := PW_nd P hP
  rw [hz] at j3
  apply c_Guess_search
  simp (disch := first | assumption | omega) only [rn, wk, al, wr_e, td_e, tm_e, mset_eq, mset_ne, if_pos, if_neg, Int.reduceAdd, Int.reduceSub, Int.reduceMul, Int.reduceNeg, Int.reduceLT, Int.reduceLE, Int.reduceEq, Int.cast_ofNat_Int, eq_self, and_true, true_and, ite_self, true_or, or_true, false_or, or_false, and_false, false_and, not_true_eq_false, not_false_eq_true, if_true, if_false, e_Guess_search_0, e_Guess_search_13, e_Guess_search_39, e_Guess_search_40, e_Guess_search_59, e_Guess_search_60, e_Guess_search_139, e_Guess_search_145, j3]
  refine EV_call (CV_mono (q_Gnote D s N so P.length (by omega) (chs_ne P j7 p1) j6 hN ⟨by omega, by omega, by omega⟩) ?_)
  rintro r t ⟨t1, t2, t3⟩
  have elen : ((tl (t 17) 0 ((P.length : Int)).toNat).length : Int) = P.length := by rw [tl_len]; omega
  have h0 : ∀ x b, rng x b → Lf A P x b = 0 := sum2_z (fun x b hr => (hLb x b hr).1) hz
  have hp : Spost A s t P n so N M := by
    refine ⟨fun c i k1 k2 => t1 c i (by omega) (by omega) (by omega), fun j _ => t1 _ _ (by omega) (by omega) (by omega), fun x b hr => by rw [t1 _ _ (by omega) (by omega) (by omega)]; exact j2 x b hr, t1 _ _ (by omega) (by omega) (by omega), [tl (t 17) 0 ((P.length : Int)).toNat], en_one (nd_leaf hv hP h0 (srt_tl _ 0 (fun i j a b c => t2.1 i j a b (by omega))) (fun v => ?_) (by omega)), by show ((1 : Nat) : Int) ≤ M; omega, t3⟩
    rw [mem_tl, ← chs_mem P j7, ← t2.2 v]
    constructor
    · rintro ⟨j, a, b, c⟩; exact ⟨j, by omega, c⟩
    · rintro ⟨j, a, c⟩; exact ⟨j, by omega, by omega, c⟩
  simp (disch := first | assumption | omega) only [rn, wk, al, wr_e, td_e, tm_e, mset_eq, mset_ne, if_pos, if_neg, Int.reduceAdd, Int.reduceSub, Int.reduceMul, Int.reduceNeg, Int.reduceLT, Int.reduceLE, Int.reduceEq, Int.cast_ofNat_Int, eq_self, and_true, true_and, ite_self, true_or, or_true, false_or, or_false, and_false, false_and, not_true_eq_false, not_false_eq_true, if_true, if_false, e_Guess_search_0, e_Guess_search_13, e_Guess_search_39, e_Guess_search_40, e_Guess_search_59, e_Guess_search_60, e_Guess_search_139, e_Guess_search_145]
  exact hp
theorem first_cell {F : Int → Int → Int} (h : ∀ x b, rng x b → 0 ≤ F x b) (hs : sum2 F ≠ 0) : ∃ x b, rng x b ∧ 0 < F x b ∧ ∀ x' b', rng x' b' → 4 * b' + x' < 4 * b + x → F x' b' = 0 := by
  have hex : ∃ x b, rng x b ∧ 0 < F x b := by
    by_cases c : ∃ x b, rng x b ∧ 0 < F x b
    · exact c
    · exfalso
      apply hs
      apply sum2_0
      intro x b hr
      have := h x b hr
      by_cases k : 0 < F x b
      · exact absurd ⟨x, b, hr, k⟩ c
      · omega
  obtain ⟨x, b, hr, hp⟩ := hex
  obtain ⟨j, j0, ⟨j1, j2⟩, j3⟩ := least_ex (p := fun j => j < 364 ∧ 0 < F (j % 4) (j / 4)) 364 (4 * b + x) (by have := hr.1; have := hr.2; omega) (by have := hr.1; have := hr.2; omega) ⟨by have := hr.1; have := hr.2; omega, by
    have := hr.1
    rw [show (4 * b + x) % 4 = x by omega, show (4 * b + x) / 4 = b by omega]; exact hp⟩
  refine ⟨j % 4, j / 4, ⟨by omega, by omega⟩, j2, fun x' b' hr' hlt => ?_⟩
  have h0 := h x' b' hr'
  have := hr'.1
  have := hr'.2
  by_cases k : 0 < F x' b'
  · have := j3 (4 * b' + x') (by omega) ⟨by omega, by rw [show (4 * b' + x') % 4 = x' by omega, show (4 * b' + x') / 4 = b' by omega]; exact k⟩
    omega
  · omega
theorem q_search (d : Nat) (A : Mem) (hv : VB A) (n so : Int) (hn : 0 ≤ n ∧ n ≤ 4) : ∀ (k : Nat) (D : Nat), D = d + k → ∀ (P : List Ent) (f h : Int) (s : Mem) (N : Ntt), (P.length : Int) + k = n → PW A P → LB A P → CI A P f h → CJ A s P n so → NtC N s → Nb N (Mb k) → CV (D + 3) 144 [14, P.length, f, h] s fun _ t => Spost A s t P n so N (Mb k) := by
  intro k
  induction k with
  | zero =>
    intro D hD P f h s N hl hP hLb hCI hJ hN hNb
    by_cases hz : sum2 (Lf A P) = 0
    · exact sr_leaf D A s hv n so _ hn (Mb_p 0) P (by omega) hP hLb f h N hNb hJ hN hz
    · obtain ⟨x, b, hr, hL, -⟩ := first_cell (fun x b hr => (hLb x b hr).1) hz
      have hp : Spost A s s P n so N (Mb 0) := ⟨fun _ _ _ _ => rfl, fun _ _ => rfl, hJ.2.1, rfl, [], en_nil (fun T hT => by have := nd_len hP hT hr hL; omega), by show ((0 : Nat) : Int) ≤ 1; omega, hN⟩
      obtain ⟨j1, j2, j3, j4, j5, j6, j7⟩ := hJ
      have sbd := sum2_bd (F := Lf A P) (m := 999) hLb
      apply c_Guess_search
      simp (disch := first | assumption | omega) only [rn, wk, al, wr_e, td_e, tm_e, mset_eq, mset_ne, if_pos, if_neg, Int.reduceAdd, Int.reduceSub, Int.reduceMul, Int.reduceNeg, Int.reduceLT, Int.reduceLE, Int.reduceEq, Int.cast_ofNat_Int, eq_self, and_true, true_and, ite_self, true_or, or_true, false_or, or_false, and_false, false_and, not_true_eq_false, not_false_eq_true, if_true, if_false, e_Guess_search_0, e_Guess_search_13, e_Guess_search_39, e_Guess_search_40, e_Guess_search_59, e_Guess_search_60, e_Guess_search_139, e_Guess_search_145, j3, j5]
      exact hp
  | succ k ih =>
    intro D hD P f h s N hl hP hLb hCI hJ hN hNb
    have hM := Mb_p k
    have eM : Mb (k + 1) = 15 * Mb k := rfl
    by_cases hz : sum2 (Lf A P) = 0
    · exact sr_leaf D A s hv n so _ hn (Mb_p (k + 1)) P (by omega) hP hLb f h N hNb hJ hN hz
    · have hJ' := hJ
      obtain ⟨j1, j2, j3, j4, j5, j6, j7⟩ := hJ'
      obtain ⟨G, hG⟩ : ∃ G, G = s 14 8 := ⟨_, rfl⟩
      rw [← hG] at j4
      have hKG : 0 ≤ (n - P.length) * G ∧ (n - P.length) * G ≤ 8000 := by
        have a : 0 ≤ (n - P.length) * G := Int.mul_nonneg (by omega) (by omega)
        have b : (n - P.length) * G ≤ 4 * G := Int.mul_le_mul_of_nonneg_right (by omega) (by omega)
        omega
      have sbd := sum2_bd (F := Lf A P) (m := 999) hLb
      apply c_Guess_search
      by_cases cp : (n - P.length) * G < sum2 (Lf A P)
      · have hp : Spost A s s P n so N (Mb (k + 1)) := ⟨fun _ _ _ _ => rfl, fun _ _ => rfl, hJ.2.1, rfl, [], en_nil (nd_prune hv hP j4.2 cp j4.1.1), by show ((0 : Nat) : Int) ≤ Mb (k + 1); omega, hN⟩
        simp (disch := first | assumption | omega) only [rn, wk, al, wr_e, td_e, tm_e, mset_eq, mset_ne, if_pos, if_neg, Int.reduceAdd, Int.reduceSub, Int.reduceMul, Int.reduceNeg, Int.reduceLT, Int.reduceLE, Int.reduceEq, Int.cast_ofNat_Int, eq_self, and_true, true_and, ite_self, true_or, or_true, false_or, or_false, and_false, false_and, not_true_eq_false, not_false_eq_true, if_true, if_false, e_Guess_search_0, e_Guess_search_13, e_Guess_search_39, e_Guess_search_40, e_Guess_search_59, e_Guess_search_60, e_Guess_search_139, e_Guess_search_145, j3, j5, ← hG]
        exact hp
      · obtain ⟨x, b, hr, hL, hfz⟩ := first_cell (fun x b hr => (hLb x b hr).1) hz
        have hr1 := hr.1
        have hr2 := hr.2
        have hfle : f ≤ 4 * b + x := by
          by_cases c : f ≤ 4 * b + x
          · exact c
          · have := hCI.2.2.1 x b hr (by omega); omega
        have hf0 := hCI.1
        have hh0 := hCI.2.1
        have hfl := q_firstLeft (D + 1) s f (4 * b + x) (by omega) (by omega) (by rw [j2 x b hr]; exact hL) (fun j hj => by
          have e := j2 (j % 4) (j / 4) ⟨by omega, by omega⟩
          rw [show 4 * (j / 4) + j % 4 = j by omega] at e
          rw [e, hfz (j % 4) (j / 4) ⟨by omega, by omega⟩ (by omega)]; omega)
        have hpost : ∀ t, Spost A s t P n so N (15 * Mb k) → Spost A s t P n so N (Mb (k + 1)) := fun t ht => by rw [eM]; exact ht
        have hE0 : ∀ q, (q ≤ 0 ∨ (4 * b + x = f ∧ q ≤ h + 1)) → EQ A n P x b q [] := by
          intro q hq
          refine ⟨trivial, fun T => ⟨fun hh => absurd hh (by simp), ?_⟩⟩
          rintro ⟨w, a, c, e⟩
          exfalso
          have hw0 := a.1.1
          rcases hq with hq | ⟨hq1, hq2⟩
          · omega
          · obtain ⟨e1, m1, m2, m3, ⟨o1, o2, o3⟩, m5⟩ := hCI.2.2.2.2 (by omega)
            have hfit : ∀ x' b', rng x' b' → pX A w x' b' ≤ Lf A P x' b' := fun x' b' hr' => by
              have := nd_le hv e hr'
              rw [Lf_cons (e := (x, b, w)) a] at this
              have t2 : 0 ≤ Lf A P x' b' - pX A w x' b' := this
              omega
            obtain ⟨p1, p2, p3⟩ := cov_opens hv a.1 hr a.2.2.1 hfit hfz
            have ex : e1.1 = x := by have := m5.1; omega
            have eb : e1.2.1 = b := by have := m5.1; omega
            have hlt := a.2.2.2.2 e1 m1 (by rw [ex, eb]; exact a.2.2.1)
            rw [ex] at o2 o3
            rw [eb] at o3
            have ek : w / 21 = e1.2.2 / 21 := by omega
            rw [ek] at p3
            have : w = e1.2.2 := by omega
            omega
        have loop : ∀ q z, 0 ≤ q ∧ q ≤ 15 → (4 * b + x = f → h < q) → (q ≤ 0 ∨ (4 * b + x = f ∧ q ≤ h + 1)) → EV (D + 2) o_Guess_search 62 [] [14, P.length, f, h, 4 * b + x, q, z] s (fun _ t => Spost A s t P n so N (Mb (k + 1))) := by
          intro q z hq hk hq2
          refine lp_sr D A s hv n so (Mb k) hn hM P (by omega) hP hLb f h x b hCI hr hL hfz N (by rw [← eM]; exact hNb) hJ (fun v s' N' a1 a2 a3 a4 a5 a6 => ?_) _ hpost (15 - q).toNat q z s [] hq.1 (by omega) hk (fun _ _ _ _ => rfl) (fun _ _ => rfl) j2 rfl (hE0 q hq2) ?_ hN
          · cases D with
            | zero => omega
            | succ D' =>
              have := ih D' (by omega) ((x, b, v) :: P) (4 * b + x) (v / 21) s' N' (by rw [List.length_cons]; omega) a1 a2 a3 a4 a5 a6
              rw [show (((x, b, v) :: P).length : Int) = (P.length : Int) + 1 by simp] at this
              exact this
          · show ((0 : Nat) : Int) ≤ q * Mb k
            have := Int.mul_nonneg hq.1 (show 0 ≤ Mb k by omega)
            omega
        by_cases cf : 4 * b + x = f
        · have hl2 := loop (h + 1) 0 (by omega) (fun _ => by omega) (Or.inr ⟨cf, by omega⟩)
          rw [cf] at hfl hl2
          simp (disch := first | assumption | omega) only [rn, wk, al, wr_e, td_e, tm_e, mset_eq, mset_ne, if_pos, if_neg, Int.reduceAdd, Int.reduceSub, Int.reduceMul, Int.reduceNeg, Int.reduceLT, Int.reduceLE, Int.reduceEq, Int.cast_ofNat_Int, eq_self, and_true, true_and, ite_self, true_or, or_true, false_or, or_false, and_false, false_and, not_true_eq_false, not_false_eq_true, if_true, if_false, e_Guess_search_0, e_Guess_search_13, e_Guess_search_39, e_Guess_search_40, e_Guess_search_59, e_Guess_search_60, e_Guess_search_139, e_Guess_search_145, j3, j5, ← hG, hfl]
          exact hl2
        · have hl2 := loop 0 0 (by omega) (fun e => absurd e cf) (Or.inl (by omega))
          simp (disch := first | assumption | omega) only [rn, wk, al, wr_e, td_e, tm_e, mset_eq, mset_ne, if_pos, if_neg, Int.reduceAdd, Int.reduceSub, Int.reduceMul, Int.reduceNeg, Int.reduceLT, Int.reduceLE, Int.reduceEq, Int.cast_ofNat_Int, eq_self, and_true, true_and, ite_self, true_or, or_true, false_or, or_false, and_false, false_and, not_true_eq_false, not_false_eq_true, if_true, if_false, e_Guess_search_0, e_Guess_search_13, e_Guess_search_39, e_Guess_search_40, e_Guess_search_59, e_Guess_search_60, e_Guess_search_139, e_Guess_search_145, j3, j5, ← hG, hfl]
          exact hl2
theorem q_findAnswers (d : Nat) (A s : Mem) (hv : VB A) (hA : ∀ k, 0 ≤ k → k < 20 → win s 37 k = A k) (hr : ∀ j, 0 ≤ j ∧ j < 364 → 0 ≤ A 10 j ∧ A 10 j ≤ 999) (n so : Int) (hn : 0 ≤ n ∧ n ≤ 4) : CV (d + 8) 140 [14, 37, n, so] s fun _ t => Fgs s t ∧ ∃ l, EN A n [] l ∧ (l.length : Int) ≤ 50625 ∧ NtC (l.foldl (nt so) (0, 0, 5, none)) t := by
  have hsum := sg_bd (f := A 10) (m := 999) 364 0 (fun i a b => hr i (by omega))
  apply c_Guess_findAnswers
  simp (disch := first | assumption | omega) only [rn, wk, al, wr_e, td_e, tm_e, mset_eq, mset_ne, if_pos, if_neg, Int.reduceAdd, Int.reduceSub, Int.reduceMul, Int.reduceNeg, Int.reduceLT, Int.reduceLE, Int.reduceEq, Int.cast_ofNat_Int, eq_self, and_true, true_and, ite_self, true_or, or_true, false_or, or_false, and_false, false_and, not_true_eq_false, not_false_eq_true, if_true, if_false, e_Guess_findAnswers_0]
  refine EV_call (CV_mono (q_Glisten (d + 3) A s hv hA hr) ?_)
  rintro r t ⟨t1, t2, t3, t4, t5, t6, t7⟩
  have eL : ∀ x b, Lf A [] x b = A 10 (4 * b + x) := fun x b => by
    unfold Lf
    have : iS (clls []) (fun v => pX A v x b) = 0 := sg_zero 315 0 _ (fun i _ _ => by show (if i ∈ ([] : List Int) then pX A i x b else 0) = 0; rw [if_neg (by simp)])
    rw [this]; omega
  have hLb : LB A [] := fun x b hrr => by rw [eL]; exact hr _ (by have := hrr.1; have := hrr.2; omega)
  have eT : sum2 (Lf A []) = sg (A 10) 0 364 := by
    unfold sum2
    rw [sg_comm, show (364 : Nat) = 4 * 91 from rfl, sg_blk (A 10) 4 91]
    apply sg_congr; intro b _ _
    apply sg_congr; intro x _ _
    exact eL x b
  obtain ⟨w, hw⟩ : ∃ w, w = mset (mset (mset (mset (mset (mset t 14 0 0) 14 1 0) 14 2 5) 14 3 (-1)) 14 5 n) 14 6 so := ⟨_, rfl⟩
  have wf : ∀ c i, ¬ (c = 14 ∧ ((0 ≤ i ∧ i ≤ 3) ∨ i = 5 ∨ i = 6)) → w c i = t c i := fun c i h => by rw [hw, mset_ne (by omega), mset_ne (by omega), mset_ne (by omega), mset_ne (by omega), mset_ne (by omega), mset_ne (by omega)]
  have wJ : CJ A w [] n so := by
    refine ⟨PG_congr (fun c i hc => wf _ _ (by omega)) (fun q x hq hx => t4 q x hq hx), fun x b hrr => by rw [wf _ _ (by omega), eL]; exact t2 _ (by have := hrr.1; have := hrr.2; omega), by rw [wf _ _ (by omega), t3, eT], ⟨by rw [wf _ _ (by omega)]; exact t6, fun v hk => ?_⟩, by rw [hw, mset_ne (by omega), mset_eq rfl rfl], by rw [hw, mset_eq rfl rfl], trivial⟩
    rw [wf _ _ (by omega), tot_aS hv hk]
    have := hk.1
    have := hk.2.1
    exact t7 (v / 21) (by omega) hk.2.2
  have wN : NtC (0, 0, 5, none) w := ⟨by rw [hw, mset_ne (by omega), mset_ne (by omega), mset_ne (by omega), mset_ne (by omega), mset_ne (by omega), mset_eq rfl rfl], by rw [hw, mset_ne (by omega), mset_ne (by omega), mset_ne (by omega), mset_ne (by omega), mset_eq rfl rfl], by rw [hw, mset_ne (by omega), mset_ne (by omega), mset_ne (by omega), mset_eq rfl rfl], Or.inl ⟨rfl, by rw [hw, mset_ne (by omega), mset_ne (by omega), mset_eq rfl rfl]⟩⟩
  obtain ⟨k, hk⟩ : ∃ k : Nat, (k : Int) = n := ⟨n.toNat, by omega⟩
  have hMb : Mb k ≤ 50625 := by
    obtain rfl | rfl | rfl | rfl | rfl : k = 0 ∨ k = 1 ∨ k = 2 ∨ k = 3 ∨ k = 4 := by omega
    all_goals decide
  obtain ⟨d', hd'⟩ : ∃ d', d + 4 = d' + k := ⟨d + 4 - k, by omega⟩
  have hs := q_search d' A hv n so hn k (d + 4) hd' [] 0 (-1) w (0, 0, 5, none) (by show ((0 : Nat) : Int) + k = n; omega) trivial hLb ⟨by omega, by omega, fun x b hrr h => by have := hrr.1; have := hrr.2; omega, fun e he => absurd he (by simp), fun h => by omega⟩ wJ wN ⟨by show (0 : Int) ≤ 0 ∧ 0 + Mb k ≤ 1000000; omega, by show (0 : Int) ≤ 0 ∧ 0 + Mb k ≤ 1000000; omega, by show (0 : Int) ≤ 5 ∧ (5 : Int) ≤ 5; omega⟩
  simp (disch := first | assumption | omega) only [rn, wk, al, wr_e, td_e, tm_e, mset_eq, mset_ne, if_pos, if_neg, Int.reduceAdd, Int.reduceSub, Int.reduceMul, Int.reduceNeg, Int.reduceLT, Int.reduceLE, Int.reduceEq, Int.cast_ofNat_Int, eq_self, and_true, true_and, ite_self, true_or, or_true, false_or, or_false, and_false, false_and, not_true_eq_false, not_false_eq_true, if_true, if_false, e_Guess_findAnswers_0, ← hw]
  refine EV_call (CV_mono hs ?_)
  rintro r2 y ⟨y1, y2, y3, y4, l, y5, y6, y7⟩
  have hp : Fgs s y ∧ ∃ l, EN A n [] l ∧ (l.length : Int) ≤ 50625 ∧ NtC (l.foldl (nt so) (0, 0, 5, none)) y := ⟨fun c i h => by rw [y1 c i (by omega) (by omega), wf c i (by omega), t1 c i (by omega) (by omega)], l, y5, by omega, y7⟩
  simp (disch := first | assumption | omega) only [rn, wk, al, wr_e, td_e, tm_e, mset_eq, mset_ne, if_pos, if_neg, Int.reduceAdd, Int.reduceSub, Int.reduceMul, Int.reduceNeg, Int.reduceLT, Int.reduceLE, Int.reduceEq, Int.cast_ofNat_Int, eq_self, and_true, true_and, ite_self, true_or, or_true, false_or, or_false, and_false, false_and, not_true_eq_false, not_false_eq_true, if_true, if_false, e_Guess_findAnswers_0]
  exact hp
