/-! ===== H2: the class searches, its loop ===== -/
def LB (A : Mem) (P : List Ent) : Prop := ∀ x b, rng x b → 0 ≤ Lf A P x b ∧ Lf A P x b ≤ 999
theorem NtC_congr {N : Ntt} {s t : Mem} (h : ∀ i, 0 ≤ i ∧ i ≤ 3 → t 14 i = s 14 i) (h15 : ∀ i, t 15 i = s 15 i) (hN : NtC N s) : NtC N t := by
  obtain ⟨a, b, c, e⟩ := hN
  have e15 : t 15 = s 15 := funext h15
  refine ⟨by rw [h 0 (by omega)]; exact a, by rw [h 1 (by omega)]; exact b, by rw [h 2 (by omega)]; exact c, ?_⟩
  rw [h 3 (by omega), e15]; exact e
theorem gd_al {A t : Mem} (hv : VB A) (hP : PG A t) {q x : Int} (hq : 0 ≤ q ∧ q < 15) (hx : 0 ≤ x ∧ x < 4) : (t 21 (4 * q + x) = -1 ∧ ¬ (vQ A q ∧ x < A 0 3 ∧ 0 ≤ opn A q x)) ∨ ((vQ A q ∧ x < A 0 3) ∧ (0 ≤ opn A q x ∧ opn A q x < 3) ∧ t 21 (4 * q + x) = opn A q x ∧ t 20 (4 * q + x) = bP A q (A 5 x) ∧ (0 ≤ bP A q (A 5 x) ∧ bP A q (A 5 x) ≤ 54)) := by
  obtain ⟨g1, g2⟩ := hP q x hq hx
  by_cases c : vQ A q ∧ x < A 0 3
  · obtain ⟨k1, k2⟩ := g1 c
    rcases opn_f A q x with ⟨o1, -⟩ | ⟨o1, -⟩
    · left; exact ⟨by rw [k1, o1], fun h => by omega⟩
    · right
      exact ⟨c, o1, k1, (k2 (by omega)).1, opn_bP hv c.1 ⟨hx.1, c.2⟩ o1.1⟩
  · left; exact ⟨g2 c, fun h => c ⟨h.1, h.2.1⟩⟩
theorem lp_sr (D : Nat) (A s : Mem) (hv : VB A) (n so M : Int) (hn : 0 ≤ n ∧ n ≤ 4) (hM : 1 ≤ M) (P : List Ent) (hPl : (P.length : Int) + 1 ≤ n) (hP : PW A P) (hLb : LB A P) (f h x b : Int) (hCI : CI A P f h) (hr : rng x b) (hL : 0 < Lf A P x b) (hz : ∀ x' b', rng x' b' → 4 * b' + x' < 4 * b + x → Lf A P x' b' = 0) (N : Ntt) (hNb : Nb N (15 * M)) (hJ : CJ A s P n so) (IH : ∀ v s' N', PW A ((x, b, v) :: P) → LB A ((x, b, v) :: P) → CI A ((x, b, v) :: P) (4 * b + x) (v / 21) → CJ A s' ((x, b, v) :: P) n so → NtC N' s' → Nb N' M → CV (D + 2) 144 [14, (P.length : Int) + 1, 4 * b + x, v / 21] s' fun _ t => Spost A s' t ((x, b, v) :: P) n so N' M) (Q : Int → Mem → Prop) (hQ : ∀ t, Spost A s t P n so N (15 * M) → Q 0 t) : ∀ (m : Nat) (q : Int) (z : Int) (t : Mem) (l : List (List Int)), 0 ≤ q → q + m = 15 → (4 * b + x = f → h < q) → Fsr s t → (∀ j, 0 ≤ j ∧ j < (P.length : Int) → t 16 j = s 16 j) → (∀ x b, rng x b → t 18 (4 * b + x) = Lf A P x b) → t 14 7 = s 14 7 → EQ A n P x b q l → (l.length : Int) ≤ q * M → NtC (l.foldl (nt so) N) t → EV (D + 2) o_Guess_search 62 [] [14, P.length, f, h, 4 * b + x, q, z] t Q := by
  have hr1 := hr.1
  have hr2 := hr.2
  have sbd := sum2_bd (F := Lf A P) (m := 999) hLb
  have opensOf : ∀ w T, cand A P x b w → ND A n ((x, b, w) :: P) T → opens A w x b ∧ ∀ x' b', rng x' b' → pX A w x' b' ≤ Lf A P x' b' := by
    intro w T hc hT
    have hf : ∀ x' b', rng x' b' → pX A w x' b' ≤ Lf A P x' b' := fun x' b' hr' => by
      have := nd_le hv hT hr'
      rw [Lf_cons (e := (x, b, w)) hc] at this
      have t2 : 0 ≤ Lf A P x' b' - pX A w x' b' := this
      omega
    exact ⟨cov_opens hv hc.1 hr hc.2.2.1 hf hz, hf⟩
  intro m
  induction m with
  | zero =>
    intro q z t l h0 hq hk hF h16 h18 h7 hE hl hN
    have eq : q = 15 := by omega
    subst eq
    have hq := hQ t ⟨hF, h16, h18, h7, l, eq_done hv hr hL hE, hl, hN⟩
    rw [e_Guess_search_62]
    simp (disch := first | assumption | omega) only [rn, wk, al, wr_e, td_e, tm_e, mset_eq, mset_ne, if_pos, if_neg, Int.reduceAdd, Int.reduceSub, Int.reduceMul, Int.reduceNeg, Int.reduceLT, Int.reduceLE, Int.reduceEq, Int.cast_ofNat_Int, eq_self, and_true, true_and, ite_self, true_or, or_true, false_or, or_false, and_false, false_and, not_true_eq_false, not_false_eq_true, if_true, if_false, e_Guess_search_0, e_Guess_search_13, e_Guess_search_39, e_Guess_search_40, e_Guess_search_59, e_Guess_search_60, e_Guess_search_139, e_Guess_search_145]
    exact hq
  | succ m ih =>
    intro q z t l h0 hq hk hF h16 h18 h7 hE hl hN
    have hJt := CJ_sp hJ hF h16 h18 h7
    obtain ⟨j1, j2, j3, j4, j5, j6, j7⟩ := hJt
    have hal := gd_al hv j1 (q := q) (x := x) (by omega) hr1
    have hbf := q_beginFor (D + 1) t q x b (by omega) hr (by
      intro hne
      rcases hal with a | a
      · exact absurd a.1 hne
      · omega)
    have qM : (q + 1) * M = q * M + M := by rw [Int.add_mul, Int.one_mul]
    have qM2 : (q + 1) * M ≤ 15 * M := Int.mul_le_mul_of_nonneg_right (by omega) (by omega)
    rw [e_Guess_search_62]
    by_cases cb : bgn t q x b = -1
    · rw [cb] at hbf
      have hx2 := ih (q + 1) (-1) t l (by omega) (by omega) (fun e => by have := hk e; omega) hF h16 h18 h7 (eq_same hE (fun w T hc hq' hT => by
        obtain ⟨⟨a1, a2, a3⟩, -⟩ := opensOf w T hc hT
        have hw := hc.1
        rw [hq'] at a2 a3
        have hvq := hw.2.2
        rw [hq'] at hvq
        rcases hal with a | ⟨b1, b2, b3, b4, b5⟩
        · exact a.2 ⟨hvq, a1, a2⟩
        · unfold bgn at cb
          rw [b3, b4, if_neg (by omega), if_pos (by omega)] at cb
          omega)) (by omega) hN
      simp (disch := first | assumption | omega) only [rn, wk, al, wr_e, td_e, tm_e, mset_eq, mset_ne, if_pos, if_neg, Int.reduceAdd, Int.reduceSub, Int.reduceMul, Int.reduceNeg, Int.reduceLT, Int.reduceLE, Int.reduceEq, Int.cast_ofNat_Int, eq_self, and_true, true_and, ite_self, true_or, or_true, false_or, or_false, and_false, false_and, not_true_eq_false, not_false_eq_true, if_true, if_false, e_Guess_search_0, e_Guess_search_13, e_Guess_search_39, e_Guess_search_40, e_Guess_search_59, e_Guess_search_60, e_Guess_search_139, e_Guess_search_145, hbf]
      exact hx2
    · rcases hal with a | ⟨b1, b2, b3, b4, b5⟩
      · exfalso; apply cb; unfold bgn; rw [if_pos a.1]
      have hbt : bgn t q x b = b - bP A q (A 5 x) - opn A q x ∧ (0 ≤ b - bP A q (A 5 x) - opn A q x ∧ b - bP A q (A 5 x) - opn A q x ≤ 20) := by
        unfold bgn at cb ⊢
        rw [b3, b4, if_neg (by omega)] at cb ⊢
        by_cases c : 0 ≤ b - bP A q (A 5 x) - opn A q x ∧ b - bP A q (A 5 x) - opn A q x ≤ 20
        · rw [if_pos c]; exact ⟨rfl, c⟩
        · rw [if_neg c] at cb; exact absurd rfl cb
      obtain ⟨hb1, hb2⟩ := hbt
      obtain ⟨bt, hbt⟩ : ∃ bt, bt = b - bP A q (A 5 x) - opn A q x := ⟨_, rfl⟩
      rw [← hbt] at hb1 hb2
      rw [hb1] at hbf
      obtain ⟨v, hvd⟩ : ∃ v, v = 21 * q + bt := ⟨_, rfl⟩
      have ev1 : v / 21 = q := by omega
      have ev2 : v % 21 = bt := by omega
      have hvk : vK A v := ⟨by omega, by omega, by rw [ev1]; exact b1.1⟩
      have hop : opens A v x b := ⟨b1.2, by rw [ev1]; exact b2.1, by rw [ev1, ev2]; omega⟩
      have same : ∀ w T, cand A P x b w → w / 21 = q → ND A n ((x, b, w) :: P) T → w = v := by
        intro w T hc hq' hT
        obtain ⟨⟨a1, a2, a3⟩, -⟩ := opensOf w T hc hT
        rw [hq'] at a2 a3
        have := hc.1.1
        omega
      have hfit := q_fits D A t hv j1 v hvk (fun x' b' hr' => by rw [j2 x' b' hr']; exact (hLb x' b' hr').1)
      rw [ev1, ev2] at hfit
      rcases hfit with ⟨ft, fa⟩ | ⟨ft, x', b', hr', fa⟩
      · have fa' : ∀ x' b', rng x' b' → pX A v x' b' ≤ Lf A P x' b' := fun x' b' hr' => by rw [← j2 x' b' hr']; exact fa x' b' hr'
        have zero : ∀ e : Ent, e ∈ P → 0 < pX A v e.1 e.2.1 → rng e.1 e.2.1 → 4 * e.2.1 + e.1 = f ∧ 4 * b + x = f ∧ e.2.2 / 21 < q := by
          intro e he hp hre
          have hfe := fa' e.1 e.2.1 hre
          rcases hCI.2.2.2.1 e he with c | c
          · have := hCI.2.2.1 e.1 e.2.1 hre c; omega
          · have hge : ¬ 4 * b + x < f := fun hh => by have := hCI.2.2.1 x b hr hh; omega
            have hle : ¬ f < 4 * b + x := fun hh => by have := hz e.1 e.2.1 hre (by omega); omega
            have := hk (by omega)
            omega
        have rngP : ∀ P : List Ent, PW A P → ∀ e, e ∈ P → rng e.1 e.2.1 ∧ 0 < pX A e.2.2 e.1 e.2.1 := by
          intro P
          induction P with
          | nil => intro _ e he; exact absurd he (by simp)
          | cons e' P' ihP =>
            intro hw e he
            rcases List.mem_cons.1 he with k | k
            · rw [k]; exact ⟨hw.2.2.2.2.1, hw.2.2.2.1⟩
            · exact ihP hw.1 e k
        have hc : cand A P x b v := by
          refine ⟨hvk, fun hm => ?_, opens_cov hop, hr, fun e he hp => ?_⟩
          · obtain ⟨e, he, hee⟩ := List.mem_map.1 hm
            obtain ⟨r1, r2⟩ := rngP P hP e he
            have hee' : e.2.2 = v := hee
            rw [hee'] at r2
            have := (zero e he r2 r1).2.2
            rw [hee'] at this
            omega
          · have := (zero e he hp (rngP P hP e he).1).2.2
            omega
        have hcP : PW A ((x, b, v) :: P) := ⟨hP, hc⟩
        have eLf : ∀ x' b', Lf A ((x, b, v) :: P) x' b' = Lf A P x' b' - pX A v x' b' := fun x' b' => Lf_cons (e := (x, b, v)) hc x' b'
        have hLb' : LB A ((x, b, v) :: P) := fun x' b' hr' => by
          rw [eLf]
          have := hLb x' b' hr'
          have := fa' x' b' hr'
          have := (pX_ok hv hvk (x := x') (b := b') hr'.1.1).1
          omega
        have hCI' : CI A ((x, b, v) :: P) (4 * b + x) (v / 21) := by
          refine ⟨by omega, by omega, fun x' b' hr' hlt => ?_, fun e he => ?_, fun _ => ⟨(x, b, v), List.mem_cons_self .., rfl, rfl, hop, hr⟩⟩
          · rw [eLf]
            have := hz x' b' hr' hlt
            have := fa' x' b' hr'
            have := (pX_ok hv hvk (x := x') (b := b') hr'.1.1).1
            omega
          · rcases List.mem_cons.1 he with k | k
            · rw [k]; right; exact ⟨rfl, Int.le_refl _⟩
            · have hge : ¬ 4 * b + x < f := fun hh => by have := hCI.2.2.1 x b hr hh; omega
              rcases hCI.2.2.2.1 e k with c | c
              · left; omega
              · by_cases c2 : 4 * b + x = f
                · right; have := hk c2; omega
                · left; omega
        have eT : sum2 (Lf A ((x, b, v) :: P)) = sum2 (Lf A P) - tot A v := by
          unfold tot
          rw [← sum2_sub]
          exact sum2_congr (fun x' b' _ _ => eLf x' b')
        have eA := tot_aS hv hvk
        rw [ev1] at eA
        have hlen : ((P.length : Nat) : Int) ≤ 3 := by omega
        have hch : alen 16 = 4 := rfl
        obtain ⟨t1, ht1⟩ : ∃ t1, t1 = mset t 16 P.length v := ⟨_, rfl⟩
        have t1f : ∀ c i, c ≠ 16 → t1 c i = t c i := fun c i hc => by rw [ht1, mset_ne (by omega)]
        have e21 : q * 21 + bt = v := by omega
        simp (disch := first | assumption | omega) only [rn, wk, al, wr_e, td_e, tm_e, mset_eq, mset_ne, if_pos, if_neg, Int.reduceAdd, Int.reduceSub, Int.reduceMul, Int.reduceNeg, Int.reduceLT, Int.reduceLE, Int.reduceEq, Int.cast_ofNat_Int, eq_self, and_true, true_and, ite_self, true_or, or_true, false_or, or_false, and_false, false_and, not_true_eq_false, not_false_eq_true, if_true, if_false, e_Guess_search_0, e_Guess_search_13, e_Guess_search_39, e_Guess_search_40, e_Guess_search_59, e_Guess_search_60, e_Guess_search_139, e_Guess_search_145, hbf, ft, e21, ← ht1]
        refine EV_call (CV_mono (q_take D A t1 hv (PG_congr (fun c i hc => t1f _ _ (by omega)) j1) q bt 1 b1.1 (by omega) (Or.inl rfl) (fun j hj => ?_) (by rw [t1f _ _ (by omega), j3]; omega)) ?_)
        · have := j2 (j % 4) (j / 4) ⟨by omega, by omega⟩
          rw [show 4 * (j / 4) + j % 4 = j by omega] at this
          have := hLb (j % 4) (j / 4) ⟨by omega, by omega⟩
          rw [t1f _ _ (by omega)]; omega
        rintro r y ⟨y1, y2, y3⟩
        rw [← hvd] at y2
        have yJ : CJ A y ((x, b, v) :: P) n so := by
          refine ⟨PG_congr (fun c i hc => by rw [y1 _ _ (by omega) (by omega), t1f _ _ (by omega)]) j1, fun x' b' hr' => ?_, ?_, ?_, ?_, ?_, ?_⟩
          · rw [y2 x' b' hr'.1 hr'.2, t1f _ _ (by omega), j2 x' b' hr', eLf]; omega
          · rw [y3, t1f _ _ (by omega), j3, eT, eA]; omega
          · rw [y1 _ _ (by omega) (by omega), t1f _ _ (by omega)]; exact j4
          · rw [y1 _ _ (by omega) (by omega), t1f _ _ (by omega)]; exact j5
          · rw [y1 _ _ (by omega) (by omega), t1f _ _ (by omega)]; exact j6
          · refine ⟨?_, chs_congr P (fun j hj => ?_) j7⟩
            · rw [y1 _ _ (by omega) (by omega), ht1, mset_eq rfl rfl]
            · rw [y1 _ _ (by omega) (by omega), ht1, mset_ne (by omega)]
        have yN : NtC (l.foldl (nt so) N) y := NtC_congr (fun i hi => by rw [y1 _ _ (by omega) (by omega), t1f _ _ (by omega)]) (fun i => by rw [y1 _ _ (by omega) (by omega), t1f _ _ (by omega)]) hN
        have hNb2 : Nb (l.foldl (nt so) N) M := Nb_fd hNb (by omega)
        have hcall := IH v y _ hcP hLb' hCI' yJ yN hNb2
        rw [ev1] at hcall
        refine EV_call (CV_mono hcall ?_)
        rintro r2 w ⟨w1, w2, w3, w4, l2, w5, w6, w7⟩
        have sbd' := sum2_bd (F := Lf A ((x, b, v) :: P)) (m := 999) hLb'
        refine EV_call (CV_mono (q_take D A w hv (PG_congr (fun c i hc => w1 _ _ (by omega) (by omega)) yJ.1) q bt (-1) b1.1 (by omega) (Or.inr rfl) (fun j hj => ?_) (by rw [w4, yJ.2.2.1]; omega)) ?_)
        · have := w3 (j % 4) (j / 4) ⟨by omega, by omega⟩
          rw [show 4 * (j / 4) + j % 4 = j by omega] at this
          have := hLb' (j % 4) (j / 4) ⟨by omega, by omega⟩
          omega
        rintro r3 g ⟨g1, g2, g3⟩
        rw [← hvd] at g2
        have el : ((l ++ l2).length : Int) = l.length + l2.length := by simp
        have hx2 := ih (q + 1) bt g (l ++ l2) (by omega) (by omega) (fun e => by have := hk e; omega) (fun c i k1 k2 => by rw [g1 c i (by omega) (by omega), w1 c i (by omega) (by omega), y1 c i (by omega) (by omega), t1f c i (by omega)]; exact hF c i k1 k2) (fun j hj => by rw [g1 _ _ (by omega) (by omega), w2 j (by rw [List.length_cons]; omega), y1 _ _ (by omega) (by omega), ht1, mset_ne (by omega)]; exact h16 j hj) (fun x' b' hr' => by rw [g2 x' b' hr'.1 hr'.2, w3 x' b' hr', eLf]; omega) (by rw [g3, w4, y3, t1f _ _ (by omega), h7]; omega) (eq_more hE hc ev1 w5 same) (by omega) (by
          rw [List.foldl_append]
          exact NtC_congr (fun i hi => g1 _ _ (by omega) (by omega)) (fun i => g1 _ _ (by omega) (by omega)) w7)
        simp (disch := first | assumption | omega) only [rn, wk, al, wr_e, td_e, tm_e, mset_eq, mset_ne, if_pos, if_neg, Int.reduceAdd, Int.reduceSub, Int.reduceMul, Int.reduceNeg, Int.reduceLT, Int.reduceLE, Int.reduceEq, Int.cast_ofNat_Int, eq_self, and_true, true_and, ite_self, true_or, or_true, false_or, or_false, and_false, false_and, not_true_eq_false, not_false_eq_true, if_true, if_false, e_Guess_search_0, e_Guess_search_13, e_Guess_search_39, e_Guess_search_40, e_Guess_search_59, e_Guess_search_60, e_Guess_search_139, e_Guess_search_145]
        exact hx2
      · have hx2 := ih (q + 1) bt t l (by omega) (by omega) (fun e => by have := hk e; omega) hF h16 h18 h7 (eq_same hE (fun w T hc hq' hT => by
          have e := same w T hc hq' hT
          have hf := (opensOf w T hc hT).2 x' b' hr'
          rw [e] at hf
          rw [j2 x' b' hr'] at fa
          omega)) (by omega) hN
        simp (disch := first | assumption | omega) only [rn, wk, al, wr_e, td_e, tm_e, mset_eq, mset_ne, if_pos, if_neg, Int.reduceAdd, Int.reduceSub, Int.reduceMul, Int.reduceNeg, Int.reduceLT, Int.reduceLE, Int.reduceEq, Int.cast_ofNat_Int, eq_self, and_true, true_and, ite_self, true_or, or_true, false_or, or_false, and_false, false_and, not_true_eq_false, not_false_eq_true, if_true, if_false, e_Guess_search_0, e_Guess_search_13, e_Guess_search_39, e_Guess_search_40, e_Guess_search_59, e_Guess_search_60, e_Guess_search_139, e_Guess_search_145, hbf, ft]
        exact hx2
