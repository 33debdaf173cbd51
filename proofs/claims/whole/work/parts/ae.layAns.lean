/-! ===== H2: answers, the reference searches ===== -/
/-- the answers by the calls ahead of q -/
def EQr (A : Mem) (n : Int) (P : List Ent) (x b q : Int) (l : List (List Int)) : Prop := Nd l ∧ ∀ T, T ∈ l ↔ ∃ v, cand A P x b v ∧ v < q ∧ ND A n ((x, b, v) :: P) T
theorem eqr_same {A : Mem} {n : Int} {P : List Ent} {x b q : Int} {l : List (List Int)} (h : EQr A n P x b q l) (hn : ¬ cand A P x b q) : EQr A n P x b (q + 1) l := by
  refine ⟨h.1, fun T => ?_⟩
  rw [h.2 T]
  constructor
  · rintro ⟨v, a, c, e⟩; exact ⟨v, a, by omega, e⟩
  · rintro ⟨v, a, c, e⟩
    by_cases k : v < q
    · exact ⟨v, a, k, e⟩
    · exact absurd (by rw [show q = v by omega]; exact a) hn
theorem eqr_more {A : Mem} {n : Int} {P : List Ent} {x b q : Int} {l m : List (List Int)} (h : EQr A n P x b q l) (hc : cand A P x b q) (hm : EN A n ((x, b, q) :: P) m) : EQr A n P x b (q + 1) (l ++ m) := by
  refine ⟨Nd_app l m h.1 hm.1 (fun T h1 h2 => ?_), fun T => ?_⟩
  · obtain ⟨w, a, c, e⟩ := (h.2 T).1 h1
    have := nd_uniq a hc e ((hm.2 T).1 h2)
    subst this
    omega
  · rw [List.mem_append, h.2 T, hm.2 T]
    constructor
    · rintro (⟨w, a, c, e⟩ | e)
      · exact ⟨w, a, by omega, e⟩
      · exact ⟨q, hc, by omega, e⟩
    · rintro ⟨w, a, c, e⟩
      by_cases k : w < q
      · left; exact ⟨w, a, k, e⟩
      · right
        rw [show q = w by omega]; exact e
theorem eqr_done {A : Mem} (hv : VB A) {n : Int} {P : List Ent} {x b : Int} (hr : rng x b) (hL : 0 < Lf A P x b) {l : List (List Int)} (h : EQr A n P x b 315 l) : EN A n P l := by
  refine ⟨h.1, fun T => ?_⟩
  rw [h.2 T, nd_step hv hr hL]
  constructor
  · rintro ⟨v, a, c, e⟩; exact ⟨v, a, e⟩
  · rintro ⟨v, a, e⟩; exact ⟨v, a, a.1.2.1, e⟩
theorem RNd_puts (d : Nat) (A s u : Mem) (P P' : List Ent) (so : Int) (N : Ntt) (v by_ : Int) (hk : vK A v) (hby : by_ = 1 ∨ by_ = -1) (hF : Fan s u) (hB : RB A u) (hLF : LF u) (hLb : ∀ x b, rng x b → -2000 ≤ Lf A P x b ∧ Lf A P x b ≤ 2000) (h7 : ∀ x b, rng x b → u 147 (91 * x + b) = Lf A P x b) (h34 : u 137 34 = so) (hc : chr (u 149) (u 148) P') (hN : NtR N u) (hL' : ∀ x b, rng x b → Lf A P' x b = Lf A P x b + by_ * pX A v x b) : CV (d + 5) 324 [137, v, by_] u fun _ w => RNd A s w P' so N ∧ w 148 = u 148 := by
  refine CV_mono (q_putsOf d A u hB hLF v by_ hk hby (fun j hj => ?_)) ?_
  · have hg : rng (j / 91) (j % 91) := ⟨by omega, by omega⟩
    have q := h7 _ _ hg
    rw [show 91 * (j / 91) + j % 91 = j by omega] at q
    have := hLb _ _ hg
    rw [q]; omega
  · rintro r w ⟨w1, w2, w3⟩
    have wc : ∀ c, (c = 138 ∨ c = 146 ∨ c = 148 ∨ c = 149) → w c = u c := fun c hc => Fl_cell w1 (by omega) (by omega)
    refine ⟨⟨fun c i y1 y2 => by rw [w1 c i (by omega) (by omega)]; exact hF c i y1 y2, RB_congr (wc 138 (by omega)) (wc 146 (by omega)) hB, w2, fun x b h => by rw [w3 x b h.1 h.2, h7 x b h, hL' x b h], by rw [w1 _ _ (by omega) (by omega)]; exact h34, by rw [wc 148 (by omega), wc 149 (by omega)]; exact hc, NtR_congr (fun i _ => w1 _ _ (by omega) (by omega)) (fun i => w1 _ _ (by omega) (by omega)) hN⟩, wc 148 (by omega)⟩
theorem lp_la (d : Nat) (A s : Mem) (hv : VB A) (hr : ∀ j, 0 ≤ j ∧ j < 364 → 0 ≤ A 10 j ∧ A 10 j ≤ 999) (hz : ∀ x b, A 0 3 ≤ x ∧ x < 4 → 0 ≤ b ∧ b < 91 → A 10 (4 * b + x) = 0) (n so : Int) (hn : 0 ≤ n ∧ n ≤ 4) (Q : Int → Mem → Prop) : ∀ (k : Nat) (P : List Ent) (x b : Int), (P.length : Int) + k = n → (P.length : Int) < n → PW A P → rng x b → x < A 0 3 → 0 < Lf A P x b → ∀ (N : Ntt), (∀ u l z, EN A n P l → RNd A s u P so (l.foldl (nt so) N) → EV (d + 6) o_R_laysAnswers 51 [] [137, n, so, (P.length : Int) - 1, z] u Q) → ∀ (m : Nat) (q : Int) (u : Mem) (l : List (List Int)), 0 ≤ q → q + m = 315 → RNd A s u P so (l.foldl (nt so) N) → u 148 P.length = 91 * x + b → EQr A n P x b q l → EV (d + 6) o_R_laysAnswers 79 [] [137, n, so, P.length, q] u Q := by
  intro k
  induction k with
  | zero => intro P x b h1 h2; omega
  | succ k ihk =>
    intro P x b hPk hPl hP hg hx hL N hQ m
    have hg1 := hg.1
    have hg2 := hg.2
    induction m with
    | zero =>
      intro q u l h0 hq hJ hcell hE
      have eq : q = 315 := by omega
      subst eq
      have hq := hQ u l 315 (eqr_done hv hg hL hE) hJ
      rw [e_R_laysAnswers_79]
      simp (disch := first | assumption | omega) only [rn, wk, al, wr_e, td_e, tm_e, mset_eq, mset_ne, if_pos, if_neg, Int.reduceAdd, Int.reduceSub, Int.reduceMul, Int.reduceNeg, Int.reduceLT, Int.reduceLE, Int.reduceEq, Int.cast_ofNat_Int, eq_self, and_true, true_and, ite_self, true_or, or_true, false_or, or_false, and_false, false_and, not_true_eq_false, not_false_eq_true, if_true, if_false, e_R_laysAnswers_0, e_R_laysAnswers_49, e_R_laysAnswers_50, e_R_laysAnswers_76, e_R_laysAnswers_103, e_R_laysAnswers_117, e_R_laysAnswers_146, e_R_laysAnswers_149]
      exact hq
    | succ m ih =>
      intro q u l h0 hq hJ hcell hE
      have hJ' := hJ
      obtain ⟨j1, j2, j3, j4, j5, j6, j7⟩ := hJ'
      obtain ⟨r, hrc, hrq⟩ := q_mayBe (d + 1) A u j2 P (by omega) hP j6 x b hg hx hcell q (by omega)
      rcases hrc with ⟨e, hc⟩ | ⟨e, hc⟩
      · subst e
        have hP' : PW A ((x, b, q) :: P) := ⟨hP, hc⟩
        have el : (((x, b, q) :: P).length : Int) = P.length + 1 := by simp
        have lf : ∀ x' b', Lf A ((x, b, q) :: P) x' b' = Lf A P x' b' - pX A q x' b' := fun x' b' => Lf_cons (e := (x, b, q)) hc x' b'
        have lb : ∀ x b, rng x b → -2000 ≤ Lf A P x b ∧ Lf A P x b ≤ 2000 := fun x b h => by have := Lf_b hv hr h P hP; omega
        have lb' : ∀ x' b', rng x' b' → -2000 ≤ Lf A ((x, b, q) :: P) x' b' ∧ Lf A ((x, b, q) :: P) x' b' ≤ 2000 := fun x' b' h => by have := Lf_b hv hr h _ hP'; rw [el] at this; omega
        have back : ∀ y l' z, EN A n ((x, b, q) :: P) l' → RNd A s y ((x, b, q) :: P) so (l'.foldl (nt so) (l.foldl (nt so) N)) → EV (d + 6) o_R_laysAnswers 51 [] [137, n, so, P.length, z] y Q := by
          intro y l' z he hy
          obtain ⟨y1, y2, y3, y4, y5, y6, y7⟩ := hy
          have c9 : y 149 P.length = q := y6.1
          have c8 : y 148 P.length = 91 * x + b := y6.2.1
          rw [e_R_laysAnswers_51]
          simp (disch := first | assumption | omega) only [rn, wk, al, wr_e, td_e, tm_e, mset_eq, mset_ne, if_pos, if_neg, Int.reduceAdd, Int.reduceSub, Int.reduceMul, Int.reduceNeg, Int.reduceLT, Int.reduceLE, Int.reduceEq, Int.cast_ofNat_Int, eq_self, and_true, true_and, ite_self, true_or, or_true, false_or, or_false, and_false, false_and, not_true_eq_false, not_false_eq_true, if_true, if_false, e_R_laysAnswers_0, e_R_laysAnswers_49, e_R_laysAnswers_50, e_R_laysAnswers_76, e_R_laysAnswers_103, e_R_laysAnswers_117, e_R_laysAnswers_146, e_R_laysAnswers_149, c9]
          refine EV_call (CV_mono (RNd_puts (d + 1) A s y ((x, b, q) :: P) P so _ q 1 hc.1 (Or.inl rfl) y1 y2 y3 lb' y4 y5 y6.2.2 y7 (fun x' b' h => by rw [lf x' b']; omega)) ?_)
          rintro r w ⟨w1, w2⟩
          have hx2 := ih (q + 1) w (l ++ l') (by omega) (by omega) (by rw [List.foldl_append]; exact w1) (by rw [w2]; exact c8) (eqr_more hE hc he)
          simp (disch := first | assumption | omega) only [rn, wk, al, wr_e, td_e, tm_e, mset_eq, mset_ne, if_pos, if_neg, Int.reduceAdd, Int.reduceSub, Int.reduceMul, Int.reduceNeg, Int.reduceLT, Int.reduceLE, Int.reduceEq, Int.cast_ofNat_Int, eq_self, and_true, true_and, ite_self, true_or, or_true, false_or, or_false, and_false, false_and, not_true_eq_false, not_false_eq_true, if_true, if_false, e_R_laysAnswers_0, e_R_laysAnswers_49, e_R_laysAnswers_50, e_R_laysAnswers_76, e_R_laysAnswers_103, e_R_laysAnswers_117, e_R_laysAnswers_146, e_R_laysAnswers_149]
          exact hx2
        obtain ⟨y, hy⟩ : ∃ y, y = mset u 149 P.length q := ⟨_, rfl⟩
        have yf : ∀ c i, c ≠ 149 → y c i = u c i := fun c i h => by rw [hy, mset_ne (by omega)]
        have yc : ∀ c, c ≠ 149 → y c = u c := fun c h => funext (fun i => yf c i h)
        have yF : Fan s y := fun c i k1 k2 => by rw [yf c i (by omega)]; exact j1 c i k1 k2
        have yB : RB A y := RB_congr (yc 138 (by omega)) (yc 146 (by omega)) j2
        have yL : LF y := by
          unfold LF
          rw [yc 137 (by omega), yc 147 (by omega)]; exact j3
        have yC : chr (y 149) (y 148) ((x, b, q) :: P) := by
          refine ⟨by rw [hy, mset_eq rfl rfl], by rw [yc 148 (by omega)]; exact hcell, chr_congr P (fun j hj => ⟨?_, ?_⟩) j6⟩
          · rw [hy, mset_ne (by omega)]
          · rw [hy, mset_ne (by omega)]
        rw [e_R_laysAnswers_79]
        simp (disch := first | assumption | omega) only [rn, wk, al, wr_e, td_e, tm_e, mset_eq, mset_ne, if_pos, if_neg, Int.reduceAdd, Int.reduceSub, Int.reduceMul, Int.reduceNeg, Int.reduceLT, Int.reduceLE, Int.reduceEq, Int.cast_ofNat_Int, eq_self, and_true, true_and, ite_self, true_or, or_true, false_or, or_false, and_false, false_and, not_true_eq_false, not_false_eq_true, if_true, if_false, e_R_laysAnswers_0, e_R_laysAnswers_49, e_R_laysAnswers_50, e_R_laysAnswers_76, e_R_laysAnswers_103, e_R_laysAnswers_117, e_R_laysAnswers_146, e_R_laysAnswers_149, hrq, ← hy]
        refine EV_call (CV_mono (RNd_puts (d + 1) A s y P ((x, b, q) :: P) so _ q (-1) hc.1 (Or.inr rfl) yF yB yL lb (fun x b h => by rw [yf _ _ (by omega)]; exact j4 x b h) (by rw [yf _ _ (by omega)]; exact j5) yC (NtR_congr (fun i _ => yf _ _ (by omega)) (fun i => yf _ _ (by omega)) j7) (fun x' b' h => by rw [lf x' b']; omega)) ?_)
        rintro r w ⟨w1, w2⟩
        have hop := q_opensAt (d + 4) A s w hr hz n so hn ((x, b, q) :: P) (by rw [el]; omega) hP' _ w1
        rw [el] at hop
        refine EV_call (CV_mono hop ?_)
        rintro r2 t (⟨e, l', he, ht⟩ | ⟨e, hlt, x', b', g', gx, gL, ht, t8, t9⟩)
        · subst e
          have hb := back t l' q he ht
          simp (disch := first | assumption | omega) only [rn, wk, al, wr_e, td_e, tm_e, mset_eq, mset_ne, if_pos, if_neg, Int.reduceAdd, Int.reduceSub, Int.reduceMul, Int.reduceNeg, Int.reduceLT, Int.reduceLE, Int.reduceEq, Int.cast_ofNat_Int, eq_self, and_true, true_and, ite_self, true_or, or_true, false_or, or_false, and_false, false_and, not_true_eq_false, not_false_eq_true, if_true, if_false, e_R_laysAnswers_0, e_R_laysAnswers_49, e_R_laysAnswers_50, e_R_laysAnswers_76, e_R_laysAnswers_103, e_R_laysAnswers_117, e_R_laysAnswers_146, e_R_laysAnswers_149]
          exact hb
        · subst e
          have hk := ihk ((x, b, q) :: P) x' b' (by rw [el]; omega) (by rw [el]; exact hlt) hP' g' gx gL (l.foldl (nt so) N) (fun u l' z he hu => by
            have := back u l' z he hu
            rw [el, show (P.length : Int) + 1 - 1 = P.length by omega]; exact this) 315 0 t [] (by omega) (by omega) ht (by rw [el]; exact t8) ⟨trivial, fun T => ⟨fun hh => absurd hh (by simp), fun ⟨v, a, b, _⟩ => by have := a.1.1; omega⟩⟩
          rw [el] at hk t9
          simp (disch := first | assumption | omega) only [rn, wk, al, wr_e, td_e, tm_e, mset_eq, mset_ne, if_pos, if_neg, Int.reduceAdd, Int.reduceSub, Int.reduceMul, Int.reduceNeg, Int.reduceLT, Int.reduceLE, Int.reduceEq, Int.cast_ofNat_Int, eq_self, and_true, true_and, ite_self, true_or, or_true, false_or, or_false, and_false, false_and, not_true_eq_false, not_false_eq_true, if_true, if_false, e_R_laysAnswers_0, e_R_laysAnswers_49, e_R_laysAnswers_50, e_R_laysAnswers_76, e_R_laysAnswers_103, e_R_laysAnswers_117, e_R_laysAnswers_146, e_R_laysAnswers_149]
          rw [e_R_laysAnswers_51]
          simp (disch := first | assumption | omega) only [rn, wk, al, wr_e, td_e, tm_e, mset_eq, mset_ne, if_pos, if_neg, Int.reduceAdd, Int.reduceSub, Int.reduceMul, Int.reduceNeg, Int.reduceLT, Int.reduceLE, Int.reduceEq, Int.cast_ofNat_Int, eq_self, and_true, true_and, ite_self, true_or, or_true, false_or, or_false, and_false, false_and, not_true_eq_false, not_false_eq_true, if_true, if_false, e_R_laysAnswers_0, e_R_laysAnswers_49, e_R_laysAnswers_50, e_R_laysAnswers_76, e_R_laysAnswers_103, e_R_laysAnswers_117, e_R_laysAnswers_146, e_R_laysAnswers_149, t9]
          exact hk
      · subst e
        have hx2 := ih (q + 1) u l (by omega) (by omega) hJ hcell (eqr_same hE hc)
        rw [e_R_laysAnswers_79]
        simp (disch := first | assumption | omega) only [rn, wk, al, wr_e, td_e, tm_e, mset_eq, mset_ne, if_pos, if_neg, Int.reduceAdd, Int.reduceSub, Int.reduceMul, Int.reduceNeg, Int.reduceLT, Int.reduceLE, Int.reduceEq, Int.cast_ofNat_Int, eq_self, and_true, true_and, ite_self, true_or, or_true, false_or, or_false, and_false, false_and, not_true_eq_false, not_false_eq_true, if_true, if_false, hrq]
        exact hx2
theorem q_laysAnswers (d : Nat) (A s : Mem) (hK : KA A) (hR : KR A s) (n so : Int) (hn : 0 ≤ n ∧ n ≤ 4) : CV (d + 7) 321 [137, n, so] s fun _ t => Fan s t ∧ ∃ l, EN A n [] l ∧ NtR (l.foldl (nt so) (0, 0, 5, none)) t := by
  have hv := KA_VB hK
  have hcc := hK.1
  unfold VC at hcc
  obtain ⟨rc, rw_, rs, rl, rk, r10, rz⟩ := hR
  have rc' := rc
  unfold RC at rc'
  apply c_R_laysAnswers
  simp (disch := first | assumption | omega) only [rn, wk, al, wr_e, td_e, tm_e, mset_eq, mset_ne, if_pos, if_neg, Int.reduceAdd, Int.reduceSub, Int.reduceMul, Int.reduceNeg, Int.reduceLT, Int.reduceLE, Int.reduceEq, Int.cast_ofNat_Int, eq_self, and_true, true_and, ite_self, true_or, or_true, false_or, or_false, and_false, false_and, not_true_eq_false, not_false_eq_true, if_true, if_false, e_R_laysAnswers_0, e_R_laysAnswers_49, e_R_laysAnswers_50, e_R_laysAnswers_76, e_R_laysAnswers_103, e_R_laysAnswers_117, e_R_laysAnswers_146, e_R_laysAnswers_149]
  refine EV_call (CV_mono (q_laysFar (d + 4) A s hK.1 hK.2.1 rc rw_) ?_)
  rintro r t ⟨f1, f2⟩
  have hnf := nf_of hK.1 hK.2.1 hK.2.2.2.2.1 f2
  have e138 : t 138 = s 138 := funext (fun i => f1 _ _ (by omega))
  have ell : ∀ x b, 0 ≤ x ∧ x < 4 → 0 ≤ b ∧ b < 91 → llF t 1 (91 * x + b) = A 10 (4 * b + x) := by
    intro x b hx hb
    unfold llF
    rw [e138]
    by_cases c : x < A 0 3
    · rw [if_pos (by omega), show 134 + (91 * x + b) = 134 + 91 * x + b by omega]; exact r10 x b hx hb
    · rw [if_neg (by omega)]; exact (rz x b (by omega) hb).symm
  refine EV_call (CV_mono (q_laysLeft (d + 5) t 1 (Or.inr rfl) (by rw [e138]; omega) (fun j hj => ?_)) ?_)
  · have q := ell (j / 91) (j % 91) (by omega) (by omega)
    rw [show 91 * (j / 91) + j % 91 = j by omega] at q
    rw [q]; exact hK.2.2.2.2.2.2 _ (by omega)
  rintro r2 w ⟨w1, w2, w3⟩
  have w138 : w 138 = s 138 := by rw [Fl_cell w1 (by omega) (by omega), e138]
  have hRB : RB A w := by
    refine ⟨hv, by rw [w138]; exact rc, by rw [w138]; exact rs, by rw [w138]; exact rl, ?_⟩
    rw [Fl_cell w1 (by omega) (by omega)]; exact hnf
  obtain ⟨y, hy⟩ : ∃ y, y = mset (mset (mset (mset (mset w 137 32 0) 137 33 0) 137 34 so) 137 35 (-1)) 137 36 1000000 := ⟨_, rfl⟩
  have yf : ∀ c i, ¬ (c = 137 ∧ (32 ≤ i ∧ i ≤ 36)) → y c i = w c i := fun c i h => by rw [hy, mset_ne (by omega), mset_ne (by omega), mset_ne (by omega), mset_ne (by omega), mset_ne (by omega)]
  have yc : ∀ c, c ≠ 137 → y c = w c := fun c h => funext (fun i => yf c i (by omega))
  have hJ0 : RNd A s y [] so (0, 0, 5, none) := by
    refine ⟨fun c i k1 k2 => by rw [yf c i (by omega), w1 c i (by omega) (by omega), f1 c i (by omega)], RB_congr (yc 138 (by omega)) (yc 146 (by omega)) hRB, ?_, fun x b h => ?_, ?_, trivial, ?_⟩
    · unfold LF at w2 ⊢
      rw [yf 137 26 (by omega), yf 137 27 (by omega), yc 147 (by omega)]; exact w2
    · have e : iS (clls []) (fun v => pX A v x b) = 0 := sg_zero 315 0 _ (fun i _ _ => by
        show (if i ∈ clls [] then pX A i x b else 0) = 0
        rw [if_neg (by simp [clls])])
      have h1 := h.1
      have h2 := h.2
      rw [yf _ _ (by omega), w3 _ (by omega), ell x b h1 h2]
      unfold Lf
      rw [e]; omega
    · rw [hy, mset_ne (by omega), mset_ne (by omega), mset_eq rfl rfl]
    · refine ⟨?_, ?_, by show (0 : Int) ≤ 5 ∧ (5 : Int) ≤ 5; omega, Or.inl ⟨rfl, rfl, ?_, ?_⟩⟩
      · rw [hy, mset_ne (by omega), mset_ne (by omega), mset_ne (by omega), mset_ne (by omega), mset_eq rfl rfl]; rfl
      · rw [hy, mset_ne (by omega), mset_ne (by omega), mset_ne (by omega), mset_eq rfl rfl]; rfl
      · rw [hy, mset_eq rfl rfl]
      · rw [hy, mset_ne (by omega), mset_eq rfl rfl]
  simp (disch := first | assumption | omega) only [rn, wk, al, wr_e, td_e, tm_e, mset_eq, mset_ne, if_pos, if_neg, Int.reduceAdd, Int.reduceSub, Int.reduceMul, Int.reduceNeg, Int.reduceLT, Int.reduceLE, Int.reduceEq, Int.cast_ofNat_Int, eq_self, and_true, true_and, ite_self, true_or, or_true, false_or, or_false, and_false, false_and, not_true_eq_false, not_false_eq_true, if_true, if_false, e_R_laysAnswers_0, e_R_laysAnswers_49, e_R_laysAnswers_50, e_R_laysAnswers_76, e_R_laysAnswers_103, e_R_laysAnswers_117, e_R_laysAnswers_146, e_R_laysAnswers_149, ← hy]
  have hop := q_opensAt (d + 4) A s y hK.2.2.2.2.2.2 rz n so hn [] (by show ((0 : Nat) : Int) ≤ n; omega) trivial _ hJ0
  have hop' : CV (d + 6) 322 [137, 0, n] y _ := hop
  have fin : ∀ u l z, EN A n [] l → RNd A s u [] so (l.foldl (nt so) (0, 0, 5, none)) → EV (d + 6) o_R_laysAnswers 51 [] [137, n, so, -1, z] u (fun _ t => Fan s t ∧ ∃ l, EN A n [] l ∧ NtR (l.foldl (nt so) (0, 0, 5, none)) t) := by
    intro u l z he hu
    have hp : Fan s u ∧ ∃ l, EN A n [] l ∧ NtR (l.foldl (nt so) (0, 0, 5, none)) u := ⟨hu.1, l, he, hu.2.2.2.2.2.2⟩
    rw [e_R_laysAnswers_51]
    simp (disch := first | assumption | omega) only [rn, wk, al, wr_e, td_e, tm_e, mset_eq, mset_ne, if_pos, if_neg, Int.reduceAdd, Int.reduceSub, Int.reduceMul, Int.reduceNeg, Int.reduceLT, Int.reduceLE, Int.reduceEq, Int.cast_ofNat_Int, eq_self, and_true, true_and, ite_self, true_or, or_true, false_or, or_false, and_false, false_and, not_true_eq_false, not_false_eq_true, if_true, if_false, e_R_laysAnswers_0, e_R_laysAnswers_49, e_R_laysAnswers_50, e_R_laysAnswers_76, e_R_laysAnswers_103, e_R_laysAnswers_117, e_R_laysAnswers_146, e_R_laysAnswers_149]
    exact hp
  refine EV_call (CV_mono hop' ?_)
  rintro r3 t (⟨e, l', he, ht⟩ | ⟨e, hlt, x', b', g', gx, gL, ht, t8, t9⟩)
  · subst e
    have hb := fin t l' 0 he ht
    simp (disch := first | assumption | omega) only [rn, wk, al, wr_e, td_e, tm_e, mset_eq, mset_ne, if_pos, if_neg, Int.reduceAdd, Int.reduceSub, Int.reduceMul, Int.reduceNeg, Int.reduceLT, Int.reduceLE, Int.reduceEq, Int.cast_ofNat_Int, eq_self, and_true, true_and, ite_self, true_or, or_true, false_or, or_false, and_false, false_and, not_true_eq_false, not_false_eq_true, if_true, if_false, e_R_laysAnswers_0, e_R_laysAnswers_49, e_R_laysAnswers_50, e_R_laysAnswers_76, e_R_laysAnswers_103, e_R_laysAnswers_117, e_R_laysAnswers_146, e_R_laysAnswers_149]
    exact hb
  · subst e
    have hk := lp_la d A s hv hK.2.2.2.2.2.2 rz n so hn (fun _ t => Fan s t ∧ ∃ l, EN A n [] l ∧ NtR (l.foldl (nt so) (0, 0, 5, none)) t) n.toNat [] x' b' (by show ((0 : Nat) : Int) + n.toNat = n; omega) hlt trivial g' gx gL (0, 0, 5, none) (fun u l z he hu => fin u l z he hu) 315 0 t [] (by omega) (by omega) ht t8 ⟨trivial, fun T => ⟨fun hh => absurd hh (by simp), fun ⟨v, a, b, _⟩ => by have := a.1.1; omega⟩⟩
    have hk' : EV (d + 6) o_R_laysAnswers 79 [] [137, n, so, 0, 0] t _ := hk
    have t9' : t 149 0 = -1 := t9
    simp (disch := first | assumption | omega) only [rn, wk, al, wr_e, td_e, tm_e, mset_eq, mset_ne, if_pos, if_neg, Int.reduceAdd, Int.reduceSub, Int.reduceMul, Int.reduceNeg, Int.reduceLT, Int.reduceLE, Int.reduceEq, Int.cast_ofNat_Int, eq_self, and_true, true_and, ite_self, true_or, or_true, false_or, or_false, and_false, false_and, not_true_eq_false, not_false_eq_true, if_true, if_false, e_R_laysAnswers_0, e_R_laysAnswers_49, e_R_laysAnswers_50, e_R_laysAnswers_76, e_R_laysAnswers_103, e_R_laysAnswers_117, e_R_laysAnswers_146, e_R_laysAnswers_149]
    rw [e_R_laysAnswers_51]
    simp (disch := first | assumption | omega) only [rn, wk, al, wr_e, td_e, tm_e, mset_eq, mset_ne, if_pos, if_neg, Int.reduceAdd, Int.reduceSub, Int.reduceMul, Int.reduceNeg, Int.reduceLT, Int.reduceLE, Int.reduceEq, Int.cast_ofNat_Int, eq_self, and_true, true_and, ite_self, true_or, or_true, false_or, or_false, and_false, false_and, not_true_eq_false, not_false_eq_true, if_true, if_false, e_R_laysAnswers_0, e_R_laysAnswers_49, e_R_laysAnswers_50, e_R_laysAnswers_76, e_R_laysAnswers_103, e_R_laysAnswers_117, e_R_laysAnswers_146, e_R_laysAnswers_149, t9']
    exact hk'
