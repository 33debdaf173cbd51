/-! ===== H2: mornings, small readers of both ===== -/
def nmF (T : Int → Int) (n p : Int) : Int := if (tkk T n p = 1 ∧ wnT T n p = -1 ∧ tke T n p - tkq T n p ≤ 8) then 3 else 2
theorem nmF_y {T : Int → Int} {n p : Int} (h : isNm T n p) : nmF T n p = 3 := by unfold nmF; unfold isNm at h; rw [if_pos h]
theorem nmF_n {T : Int → Int} {n p : Int} (h : ¬ isNm T n p) : nmF T n p = 2 := by unfold nmF; unfold isNm at h; rw [if_neg h]
theorem nmF_p {T : Int → Int} {n p : Int} : 0 < nmF T n p := by unfold nmF; split <;> omega
def nmOk (T : Int → Int) (n p k : Int) : Prop := isNm T n p ∧ k ≠ -1
/-- the class reads a thing of a row -/
def RdP (T : Int → Int) (n p : Int) (s : Mem) (ok : Prop) (f cell row v r : Int) (t : Mem) : Prop := (r = 1 ∧ ok ∧ (∀ c i, ¬ (c = 7 ∧ 3 ≤ i ∧ i ≤ 7) → ¬ (c = cell ∧ i = row) → t c i = s c i) ∧ t cell row = v ∧ Cs T n (tke T n p) t) ∨ (r = 0 ∧ ¬ ok ∧ (∀ c i, ¬ (c = 7 ∧ 3 ≤ i ∧ i ≤ 9) → ¬ (c = cell ∧ i = row) → t c i = s c i) ∧ t 7 8 = flt T n p f ∧ t 7 9 = tkq T n p)
/-- the reference reads a thing of a row -/
def RrP (T : Int → Int) (n p : Int) (u : Mem) (ok : Prop) (f to v r : Int) (w : Mem) : Prop := (r = 1 ∧ ok ∧ (∀ c i, ¬ (c = 137 ∧ 12 ≤ i ∧ i ≤ 15) → ¬ (c = 138 ∧ i = to) → w c i = u c i) ∧ w 138 to = v ∧ Rs_ T n (tke T n p) w) ∨ (r = 0 ∧ ¬ ok ∧ (∀ c i, ¬ (c = 137 ∧ (i = 17 ∨ i = 18)) → ¬ (c = 138 ∧ i = to) → w c i = u c i) ∧ w 137 18 = flt T n p f ∧ w 137 17 = tkq T n p)
theorem RdP01 {T : Int → Int} {n p : Int} {s : Mem} {ok : Prop} {f c row v r : Int} {t : Mem} (h : RdP T n p s ok f c row v r t) : r = 0 ∨ r = 1 := by
  rcases h with ⟨e, -⟩ | ⟨e, -⟩
  · exact Or.inr e
  · exact Or.inl e
theorem RrP01 {T : Int → Int} {n p : Int} {s : Mem} {ok : Prop} {f to v r : Int} {t : Mem} (h : RrP T n p s ok f to v r t) : r = 0 ∨ r = 1 := by
  rcases h with ⟨e, -⟩ | ⟨e, -⟩
  · exact Or.inr e
  · exact Or.inl e
theorem rd_where (d : Nat) {T : Int → Int} {n p : Int} (hT : TX T n) {s : Mem} (hs : Cs T n p s) (row most : Int) (hr : 0 ≤ row ∧ row < 60) : CV (d + 4) 78 [10, 69, row, most] s (RdP T n p s (nOk T n p 0 most) (nF T n p) 73 row (dvT T n p)) := by
  apply c_MorningsReader_readWhere
  simp (disch := first | assumption | omega) only [rn, wk, al, wr_e, td_e, tm_e, mset_eq, mset_ne, if_pos, if_neg, Int.reduceAdd, Int.reduceSub, Int.reduceMul, Int.reduceNeg, Int.reduceLT, Int.reduceLE, Int.reduceEq, Int.cast_ofNat_Int, eq_self, and_true, true_and, ite_self, true_or, or_true, false_or, or_false, and_false, false_and, not_true_eq_false, not_false_eq_true, if_true, if_false, e_MorningsReader_readWhere_0, e_MorningsReader_readWhere_14]
  refine EV_call (CV_mono (q_numberNext d hT hs 0 most) ?_)
  rintro r t (⟨e, ok, f, k, c⟩ | ⟨e, nok, f, g8, g9⟩)
  · subst e
    have g6 : t 7 6 = dvT T n p := k.2.2.2.2.2.1 ok.1
    have hp : RdP T n p s (nOk T n p 0 most) (nF T n p) 73 row (dvT T n p) 1 (mset t 73 row (dvT T n p)) := Or.inl ⟨rfl, ok, fun c i h1 h2 => by rw [mset_ne (by omega)]; exact f c i h1, mset_eq rfl rfl, Cs_f (fun c i h => mset_ne (by omega)) c⟩
    simp (disch := first | assumption | omega) only [rn, wk, al, wr_e, td_e, tm_e, mset_eq, mset_ne, if_pos, if_neg, Int.reduceAdd, Int.reduceSub, Int.reduceMul, Int.reduceNeg, Int.reduceLT, Int.reduceLE, Int.reduceEq, Int.cast_ofNat_Int, eq_self, and_true, true_and, ite_self, true_or, or_true, false_or, or_false, and_false, false_and, not_true_eq_false, not_false_eq_true, if_true, if_false, e_MorningsReader_readWhere_0, e_MorningsReader_readWhere_14, g6]
    exact hp
  · subst e
    have hp : RdP T n p s (nOk T n p 0 most) (nF T n p) 73 row (dvT T n p) 0 t := Or.inr ⟨rfl, nok, fun c i h1 _ => f c i h1, g8, g9⟩
    simp (disch := first | assumption | omega) only [rn, wk, al, wr_e, td_e, tm_e, mset_eq, mset_ne, if_pos, if_neg, Int.reduceAdd, Int.reduceSub, Int.reduceMul, Int.reduceNeg, Int.reduceLT, Int.reduceLE, Int.reduceEq, Int.cast_ofNat_Int, eq_self, and_true, true_and, ite_self, true_or, or_true, false_or, or_false, and_false, false_and, not_true_eq_false, not_false_eq_true, if_true, if_false, e_MorningsReader_readWhere_0, e_MorningsReader_readWhere_14]
    exact hp
theorem rd_number (d : Nat) {T : Int → Int} {n p : Int} (hT : TX T n) {s : Mem} (hs : Cs T n p s) (row lo most : Int) (hr : 0 ≤ row ∧ row < 60) : CV (d + 4) 79 [10, 69, row, lo, most] s (RdP T n p s (nOk T n p lo most) (nF T n p) 75 row (dvT T n p)) := by
  apply c_MorningsReader_readNumber
  simp (disch := first | assumption | omega) only [rn, wk, al, wr_e, td_e, tm_e, mset_eq, mset_ne, if_pos, if_neg, Int.reduceAdd, Int.reduceSub, Int.reduceMul, Int.reduceNeg, Int.reduceLT, Int.reduceLE, Int.reduceEq, Int.cast_ofNat_Int, eq_self, and_true, true_and, ite_self, true_or, or_true, false_or, or_false, and_false, false_and, not_true_eq_false, not_false_eq_true, if_true, if_false, e_MorningsReader_readNumber_0, e_MorningsReader_readNumber_15]
  refine EV_call (CV_mono (q_numberNext d hT hs lo most) ?_)
  rintro r t (⟨e, ok, f, k, c⟩ | ⟨e, nok, f, g8, g9⟩)
  · subst e
    have g6 : t 7 6 = dvT T n p := k.2.2.2.2.2.1 ok.1
    have hp : RdP T n p s (nOk T n p lo most) (nF T n p) 75 row (dvT T n p) 1 (mset t 75 row (dvT T n p)) := Or.inl ⟨rfl, ok, fun c i h1 h2 => by rw [mset_ne (by omega)]; exact f c i h1, mset_eq rfl rfl, Cs_f (fun c i h => mset_ne (by omega)) c⟩
    simp (disch := first | assumption | omega) only [rn, wk, al, wr_e, td_e, tm_e, mset_eq, mset_ne, if_pos, if_neg, Int.reduceAdd, Int.reduceSub, Int.reduceMul, Int.reduceNeg, Int.reduceLT, Int.reduceLE, Int.reduceEq, Int.cast_ofNat_Int, eq_self, and_true, true_and, ite_self, true_or, or_true, false_or, or_false, and_false, false_and, not_true_eq_false, not_false_eq_true, if_true, if_false, e_MorningsReader_readNumber_0, e_MorningsReader_readNumber_15, g6]
    exact hp
  · subst e
    have hp : RdP T n p s (nOk T n p lo most) (nF T n p) 75 row (dvT T n p) 0 t := Or.inr ⟨rfl, nok, fun c i h1 _ => f c i h1, g8, g9⟩
    simp (disch := first | assumption | omega) only [rn, wk, al, wr_e, td_e, tm_e, mset_eq, mset_ne, if_pos, if_neg, Int.reduceAdd, Int.reduceSub, Int.reduceMul, Int.reduceNeg, Int.reduceLT, Int.reduceLE, Int.reduceEq, Int.cast_ofNat_Int, eq_self, and_true, true_and, ite_self, true_or, or_true, false_or, or_false, and_false, false_and, not_true_eq_false, not_false_eq_true, if_true, if_false, e_MorningsReader_readNumber_0, e_MorningsReader_readNumber_15]
    exact hp
theorem rd_sign (d : Nat) {T : Int → Int} {n p : Int} (hT : TX T n) {s : Mem} (hs : Cs T n p s) (row : Int) (hr : 0 ≤ row ∧ row < 60) : CV (d + 4) 83 [10, 69, row] s (RdP T n p s (gOk T n p) 2 74 row (T (tkq T n p))) := by
  apply c_MorningsReader_readSign
  simp (disch := first | assumption | omega) only [rn, wk, al, wr_e, td_e, tm_e, mset_eq, mset_ne, if_pos, if_neg, Int.reduceAdd, Int.reduceSub, Int.reduceMul, Int.reduceNeg, Int.reduceLT, Int.reduceLE, Int.reduceEq, Int.cast_ofNat_Int, eq_self, and_true, true_and, ite_self, true_or, or_true, false_or, or_false, and_false, false_and, not_true_eq_false, not_false_eq_true, if_true, if_false, e_MorningsReader_readSign_0, e_MorningsReader_readSign_12]
  refine EV_call (CV_mono (q_compareNext d hT hs) ?_)
  rintro r t (⟨e, ok, f, k, c⟩ | ⟨e, nok, f, g8, g9⟩)
  · subst e
    have g6 : t 7 6 = T (tkq T n p) := k.2.2.2.2.2.2 ok.1
    have hp : RdP T n p s (gOk T n p) 2 74 row (T (tkq T n p)) 1 (mset t 74 row (T (tkq T n p))) := Or.inl ⟨rfl, ok, fun c i h1 h2 => by rw [mset_ne (by omega)]; exact f c i h1, mset_eq rfl rfl, Cs_f (fun c i h => mset_ne (by omega)) c⟩
    simp (disch := first | assumption | omega) only [rn, wk, al, wr_e, td_e, tm_e, mset_eq, mset_ne, if_pos, if_neg, Int.reduceAdd, Int.reduceSub, Int.reduceMul, Int.reduceNeg, Int.reduceLT, Int.reduceLE, Int.reduceEq, Int.cast_ofNat_Int, eq_self, and_true, true_and, ite_self, true_or, or_true, false_or, or_false, and_false, false_and, not_true_eq_false, not_false_eq_true, if_true, if_false, e_MorningsReader_readSign_0, e_MorningsReader_readSign_12, g6]
    exact hp
  · subst e
    have hp : RdP T n p s (gOk T n p) 2 74 row (T (tkq T n p)) 0 t := Or.inr ⟨rfl, nok, fun c i h1 _ => f c i h1, g8, g9⟩
    simp (disch := first | assumption | omega) only [rn, wk, al, wr_e, td_e, tm_e, mset_eq, mset_ne, if_pos, if_neg, Int.reduceAdd, Int.reduceSub, Int.reduceMul, Int.reduceNeg, Int.reduceLT, Int.reduceLE, Int.reduceEq, Int.cast_ofNat_Int, eq_self, and_true, true_and, ite_self, true_or, or_true, false_or, or_false, and_false, false_and, not_true_eq_false, not_false_eq_true, if_true, if_false, e_MorningsReader_readSign_0, e_MorningsReader_readSign_12]
    exact hp
theorem rd_caller (d : Nat) {T : Int → Int} {n p : Int} (hT : TX T n) {s : Mem} (hs : Cs T n p s) (row : Int) (hr : 0 ≤ row ∧ row < 60) (h1 : 0 ≤ s 37 4 ∧ s 37 4 ≤ 5) : CV (d + 4) 77 [10, 69, row, 37] s (RdP T n p s (nmOk T n p (ixa (s 38) (nmT T n p) 11 (s 37 4))) (nmF T n p) 72 row (ixa (s 38) (nmT T n p) 11 (s 37 4))) := by
  apply c_MorningsReader_readCaller
  simp (disch := first | assumption | omega) only [rn, wk, al, wr_e, td_e, tm_e, mset_eq, mset_ne, if_pos, if_neg, Int.reduceAdd, Int.reduceSub, Int.reduceMul, Int.reduceNeg, Int.reduceLT, Int.reduceLE, Int.reduceEq, Int.cast_ofNat_Int, eq_self, and_true, true_and, ite_self, true_or, or_true, false_or, or_false, and_false, false_and, not_true_eq_false, not_false_eq_true, if_true, if_false, e_MorningsReader_readCaller_0, e_MorningsReader_readCaller_12, e_MorningsReader_readCaller_50, e_MorningsReader_readCaller_54, e_MorningsReader_readCaller_55]
  refine EV_call (CV_mono (q_nameNext d hT hs) ?_)
  rintro r t (⟨e, ok, f, k, c⟩ | ⟨e, nok, f, g8, g9⟩)
  · subst e
    have g7 : t 7 7 = nmT T n p := (k.2.2.2.2.1 ok.1).2
    have t1 : t 37 4 = s 37 4 := f _ _ (by omega)
    have t38 : t (37 + 1) = s 38 := funext (fun i => f _ _ (by omega))
    have qp := q_callerNamed (d + 1) isH37 t (nmT T n p) (by omega)
    rw [t1, t38] at qp
    obtain ⟨x, hx⟩ : ∃ x, x = ixa (s 38) (nmT T n p) 11 (s 37 4) := ⟨_, rfl⟩
    rw [← hx] at qp ⊢
    obtain ⟨t2, ht2⟩ : ∃ t2, t2 = mset t 72 row x := ⟨_, rfl⟩
    have t2f : ∀ c i, ¬ (c = 72 ∧ i = row) → t2 c i = t c i := fun c i h => by rw [ht2, mset_ne (by omega)]
    have t2v : t2 72 row = x := by rw [ht2, mset_eq rfl rfl]
    have k2 : TkC T n p t2 := by
      unfold TkC at k ⊢
      simp (disch := omega) only [t2f]
      exact k
    by_cases cx : x = -1
    · have q3 := q_Trefuse (d + 2) t2 3 k2
      have hp : RdP T n p s (nmOk T n p x) (nmF T n p) 72 row x 0 (mset (mset t2 7 8 (flt T n p 3)) 7 9 (tkq T n p)) := Or.inr ⟨rfl, fun h => h.2 cx, fun c i h1 h2 => by rw [mset_ne (by omega), mset_ne (by omega), t2f c i h2]; exact f c i (by omega), by rw [mset_ne (by omega), mset_eq rfl rfl, nmF_y ok], mset_eq rfl rfl⟩
      rw [cx] at qp t2v ht2
      simp (disch := first | assumption | omega) only [rn, wk, al, wr_e, td_e, tm_e, mset_eq, mset_ne, if_pos, if_neg, Int.reduceAdd, Int.reduceSub, Int.reduceMul, Int.reduceNeg, Int.reduceLT, Int.reduceLE, Int.reduceEq, Int.cast_ofNat_Int, eq_self, and_true, true_and, ite_self, true_or, or_true, false_or, or_false, and_false, false_and, not_true_eq_false, not_false_eq_true, if_true, if_false, e_MorningsReader_readCaller_0, e_MorningsReader_readCaller_12, e_MorningsReader_readCaller_50, e_MorningsReader_readCaller_54, e_MorningsReader_readCaller_55, g7, qp, ← ht2, t2v, q3]
      exact hp
    · have hp : RdP T n p s (nmOk T n p x) (nmF T n p) 72 row x 1 t2 := Or.inl ⟨rfl, ⟨ok, cx⟩, fun c i h1 h2 => by rw [t2f c i h2]; exact f c i h1, t2v, Cs_f (fun c i h => t2f c i (by omega)) c⟩
      simp (disch := first | assumption | omega) only [rn, wk, al, wr_e, td_e, tm_e, mset_eq, mset_ne, if_pos, if_neg, Int.reduceAdd, Int.reduceSub, Int.reduceMul, Int.reduceNeg, Int.reduceLT, Int.reduceLE, Int.reduceEq, Int.cast_ofNat_Int, eq_self, and_true, true_and, ite_self, true_or, or_true, false_or, or_false, and_false, false_and, not_true_eq_false, not_false_eq_true, if_true, if_false, e_MorningsReader_readCaller_0, e_MorningsReader_readCaller_12, e_MorningsReader_readCaller_50, e_MorningsReader_readCaller_54, e_MorningsReader_readCaller_55, g7, qp, ← ht2, t2v, cx]
      exact hp
  · subst e
    obtain ⟨x, hx⟩ : ∃ x, x = ixa (s 38) (nmT T n p) 11 (s 37 4) := ⟨_, rfl⟩
    rw [← hx]
    have hp : RdP T n p s (nmOk T n p x) (nmF T n p) 72 row x 0 t := Or.inr ⟨rfl, fun h => nok h.1, fun c i h1 _ => f c i h1, by rw [nmF_n nok]; exact g8, g9⟩
    simp (disch := first | assumption | omega) only [rn, wk, al, wr_e, td_e, tm_e, mset_eq, mset_ne, if_pos, if_neg, Int.reduceAdd, Int.reduceSub, Int.reduceMul, Int.reduceNeg, Int.reduceLT, Int.reduceLE, Int.reduceEq, Int.cast_ofNat_Int, eq_self, and_true, true_and, ite_self, true_or, or_true, false_or, or_false, and_false, false_and, not_true_eq_false, not_false_eq_true, if_true, if_false, e_MorningsReader_readCaller_0, e_MorningsReader_readCaller_12, e_MorningsReader_readCaller_50, e_MorningsReader_readCaller_54, e_MorningsReader_readCaller_55]
    exact hp
theorem rd_place (d : Nat) {T : Int → Int} {n p : Int} (hT : TX T n) {s : Mem} (hs : Cs T n p s) (row : Int) (hr : 0 ≤ row ∧ row < 60) (h1 : 0 ≤ s 37 1 ∧ s 37 1 ≤ 7) : CV (d + 4) 80 [10, 69, row, 37] s (RdP T n p s (nmOk T n p (ixa (s 38) (nmT T n p) 0 (s 37 1))) (nmF T n p) 73 row (ixa (s 38) (nmT T n p) 0 (s 37 1))) := by
  apply c_MorningsReader_readPlace
  simp (disch := first | assumption | omega) only [rn, wk, al, wr_e, td_e, tm_e, mset_eq, mset_ne, if_pos, if_neg, Int.reduceAdd, Int.reduceSub, Int.reduceMul, Int.reduceNeg, Int.reduceLT, Int.reduceLE, Int.reduceEq, Int.cast_ofNat_Int, eq_self, and_true, true_and, ite_self, true_or, or_true, false_or, or_false, and_false, false_and, not_true_eq_false, not_false_eq_true, if_true, if_false, e_MorningsReader_readPlace_0, e_MorningsReader_readPlace_12, e_MorningsReader_readPlace_50, e_MorningsReader_readPlace_54, e_MorningsReader_readPlace_55]
  refine EV_call (CV_mono (q_nameNext d hT hs) ?_)
  rintro r t (⟨e, ok, f, k, c⟩ | ⟨e, nok, f, g8, g9⟩)
  · subst e
    have g7 : t 7 7 = nmT T n p := (k.2.2.2.2.1 ok.1).2
    have t1 : t 37 1 = s 37 1 := f _ _ (by omega)
    have t38 : t (37 + 1) = s 38 := funext (fun i => f _ _ (by omega))
    have qp := q_placeNamed (d + 1) isH37 t (nmT T n p) (by omega)
    rw [t1, t38] at qp
    obtain ⟨x, hx⟩ : ∃ x, x = ixa (s 38) (nmT T n p) 0 (s 37 1) := ⟨_, rfl⟩
    rw [← hx] at qp ⊢
    obtain ⟨t2, ht2⟩ : ∃ t2, t2 = mset t 73 row x := ⟨_, rfl⟩
    have t2f : ∀ c i, ¬ (c = 73 ∧ i = row) → t2 c i = t c i := fun c i h => by rw [ht2, mset_ne (by omega)]
    have t2v : t2 73 row = x := by rw [ht2, mset_eq rfl rfl]
    have k2 : TkC T n p t2 := by
      unfold TkC at k ⊢
      simp (disch := omega) only [t2f]
      exact k
    by_cases cx : x = -1
    · have q3 := q_Trefuse (d + 2) t2 3 k2
      have hp : RdP T n p s (nmOk T n p x) (nmF T n p) 73 row x 0 (mset (mset t2 7 8 (flt T n p 3)) 7 9 (tkq T n p)) := Or.inr ⟨rfl, fun h => h.2 cx, fun c i h1 h2 => by rw [mset_ne (by omega), mset_ne (by omega), t2f c i h2]; exact f c i (by omega), by rw [mset_ne (by omega), mset_eq rfl rfl, nmF_y ok], mset_eq rfl rfl⟩
      rw [cx] at qp t2v ht2
      simp (disch := first | assumption | omega) only [rn, wk, al, wr_e, td_e, tm_e, mset_eq, mset_ne, if_pos, if_neg, Int.reduceAdd, Int.reduceSub, Int.reduceMul, Int.reduceNeg, Int.reduceLT, Int.reduceLE, Int.reduceEq, Int.cast_ofNat_Int, eq_self, and_true, true_and, ite_self, true_or, or_true, false_or, or_false, and_false, false_and, not_true_eq_false, not_false_eq_true, if_true, if_false, e_MorningsReader_readPlace_0, e_MorningsReader_readPlace_12, e_MorningsReader_readPlace_50, e_MorningsReader_readPlace_54, e_MorningsReader_readPlace_55, g7, qp, ← ht2, t2v, q3]
      exact hp
    · have hp : RdP T n p s (nmOk T n p x) (nmF T n p) 73 row x 1 t2 := Or.inl ⟨rfl, ⟨ok, cx⟩, fun c i h1 h2 => by rw [t2f c i h2]; exact f c i h1, t2v, Cs_f (fun c i h => t2f c i (by omega)) c⟩
      simp (disch := first | assumption | omega) only [rn, wk, al, wr_e, td_e, tm_e, mset_eq, mset_ne, if_pos, if_neg, Int.reduceAdd, Int.reduceSub, Int.reduceMul, Int.reduceNeg, Int.reduceLT, Int.reduceLE, Int.reduceEq, Int.cast_ofNat_Int, eq_self, and_true, true_and, ite_self, true_or, or_true, false_or, or_false, and_false, false_and, not_true_eq_false, not_false_eq_true, if_true, if_false, e_MorningsReader_readPlace_0, e_MorningsReader_readPlace_12, e_MorningsReader_readPlace_50, e_MorningsReader_readPlace_54, e_MorningsReader_readPlace_55, g7, qp, ← ht2, t2v, cx]
      exact hp
  · subst e
    obtain ⟨x, hx⟩ : ∃ x, x = ixa (s 38) (nmT T n p) 0 (s 37 1) := ⟨_, rfl⟩
    rw [← hx]
    have hp : RdP T n p s (nmOk T n p x) (nmF T n p) 73 row x 0 t := Or.inr ⟨rfl, fun h => nok h.1, fun c i h1 _ => f c i h1, by rw [nmF_n nok]; exact g8, g9⟩
    simp (disch := first | assumption | omega) only [rn, wk, al, wr_e, td_e, tm_e, mset_eq, mset_ne, if_pos, if_neg, Int.reduceAdd, Int.reduceSub, Int.reduceMul, Int.reduceNeg, Int.reduceLT, Int.reduceLE, Int.reduceEq, Int.cast_ofNat_Int, eq_self, and_true, true_and, ite_self, true_or, or_true, false_or, or_false, and_false, false_and, not_true_eq_false, not_false_eq_true, if_true, if_false, e_MorningsReader_readPlace_0, e_MorningsReader_readPlace_12, e_MorningsReader_readPlace_50, e_MorningsReader_readPlace_54, e_MorningsReader_readPlace_55]
    exact hp
theorem rd_slate (d : Nat) {T : Int → Int} {n p : Int} (hT : TX T n) {s : Mem} (hs : Cs T n p s) (row : Int) (hr : 0 ≤ row ∧ row < 60) (h1 : 0 ≤ s 37 3 ∧ s 37 3 ≤ 4) : CV (d + 4) 82 [10, 69, row, 37] s (RdP T n p s (nmOk T n p (ixa (s 38) (nmT T n p) 7 (s 37 3))) (nmF T n p) 72 row (ixa (s 38) (nmT T n p) 7 (s 37 3))) := by
  apply c_MorningsReader_readSlate
  simp (disch := first | assumption | omega) only [rn, wk, al, wr_e, td_e, tm_e, mset_eq, mset_ne, if_pos, if_neg, Int.reduceAdd, Int.reduceSub, Int.reduceMul, Int.reduceNeg, Int.reduceLT, Int.reduceLE, Int.reduceEq, Int.cast_ofNat_Int, eq_self, and_true, true_and, ite_self, true_or, or_true, false_or, or_false, and_false, false_and, not_true_eq_false, not_false_eq_true, if_true, if_false, e_MorningsReader_readSlate_0, e_MorningsReader_readSlate_12, e_MorningsReader_readSlate_50, e_MorningsReader_readSlate_54, e_MorningsReader_readSlate_55]
  refine EV_call (CV_mono (q_nameNext d hT hs) ?_)
  rintro r t (⟨e, ok, f, k, c⟩ | ⟨e, nok, f, g8, g9⟩)
  · subst e
    have g7 : t 7 7 = nmT T n p := (k.2.2.2.2.1 ok.1).2
    have t1 : t 37 3 = s 37 3 := f _ _ (by omega)
    have t38 : t (37 + 1) = s 38 := funext (fun i => f _ _ (by omega))
    have qp := q_slateNamed (d + 1) isH37 t (nmT T n p) (by omega)
    rw [t1, t38] at qp
    obtain ⟨x, hx⟩ : ∃ x, x = ixa (s 38) (nmT T n p) 7 (s 37 3) := ⟨_, rfl⟩
    rw [← hx] at qp ⊢
    obtain ⟨t2, ht2⟩ : ∃ t2, t2 = mset t 72 row x := ⟨_, rfl⟩
    have t2f : ∀ c i, ¬ (c = 72 ∧ i = row) → t2 c i = t c i := fun c i h => by rw [ht2, mset_ne (by omega)]
    have t2v : t2 72 row = x := by rw [ht2, mset_eq rfl rfl]
    have k2 : TkC T n p t2 := by
      unfold TkC at k ⊢
      simp (disch := omega) only [t2f]
      exact k
    by_cases cx : x = -1
    · have q3 := q_Trefuse (d + 2) t2 3 k2
      have hp : RdP T n p s (nmOk T n p x) (nmF T n p) 72 row x 0 (mset (mset t2 7 8 (flt T n p 3)) 7 9 (tkq T n p)) := Or.inr ⟨rfl, fun h => h.2 cx, fun c i h1 h2 => by rw [mset_ne (by omega), mset_ne (by omega), t2f c i h2]; exact f c i (by omega), by rw [mset_ne (by omega), mset_eq rfl rfl, nmF_y ok], mset_eq rfl rfl⟩
      rw [cx] at qp t2v ht2
      simp (disch := first | assumption | omega) only [rn, wk, al, wr_e, td_e, tm_e, mset_eq, mset_ne, if_pos, if_neg, Int.reduceAdd, Int.reduceSub, Int.reduceMul, Int.reduceNeg, Int.reduceLT, Int.reduceLE, Int.reduceEq, Int.cast_ofNat_Int, eq_self, and_true, true_and, ite_self, true_or, or_true, false_or, or_false, and_false, false_and, not_true_eq_false, not_false_eq_true, if_true, if_false, e_MorningsReader_readSlate_0, e_MorningsReader_readSlate_12, e_MorningsReader_readSlate_50, e_MorningsReader_readSlate_54, e_MorningsReader_readSlate_55, g7, qp, ← ht2, t2v, q3]
      exact hp
    · have hp : RdP T n p s (nmOk T n p x) (nmF T n p) 72 row x 1 t2 := Or.inl ⟨rfl, ⟨ok, cx⟩, fun c i h1 h2 => by rw [t2f c i h2]; exact f c i h1, t2v, Cs_f (fun c i h => t2f c i (by omega)) c⟩
      simp (disch := first | assumption | omega) only [rn, wk, al, wr_e, td_e, tm_e, mset_eq, mset_ne, if_pos, if_neg, Int.reduceAdd, Int.reduceSub, Int.reduceMul, Int.reduceNeg, Int.reduceLT, Int.reduceLE, Int.reduceEq, Int.cast_ofNat_Int, eq_self, and_true, true_and, ite_self, true_or, or_true, false_or, or_false, and_false, false_and, not_true_eq_false, not_false_eq_true, if_true, if_false, e_MorningsReader_readSlate_0, e_MorningsReader_readSlate_12, e_MorningsReader_readSlate_50, e_MorningsReader_readSlate_54, e_MorningsReader_readSlate_55, g7, qp, ← ht2, t2v, cx]
      exact hp
  · subst e
    obtain ⟨x, hx⟩ : ∃ x, x = ixa (s 38) (nmT T n p) 7 (s 37 3) := ⟨_, rfl⟩
    rw [← hx]
    have hp : RdP T n p s (nmOk T n p x) (nmF T n p) 72 row x 0 t := Or.inr ⟨rfl, fun h => nok h.1, fun c i h1 _ => f c i h1, by rw [nmF_n nok]; exact g8, g9⟩
    simp (disch := first | assumption | omega) only [rn, wk, al, wr_e, td_e, tm_e, mset_eq, mset_ne, if_pos, if_neg, Int.reduceAdd, Int.reduceSub, Int.reduceMul, Int.reduceNeg, Int.reduceLT, Int.reduceLE, Int.reduceEq, Int.cast_ofNat_Int, eq_self, and_true, true_and, ite_self, true_or, or_true, false_or, or_false, and_false, false_and, not_true_eq_false, not_false_eq_true, if_true, if_false, e_MorningsReader_readSlate_0, e_MorningsReader_readSlate_12, e_MorningsReader_readSlate_50, e_MorningsReader_readSlate_54, e_MorningsReader_readSlate_55]
    exact hp
theorem rr_old (d : Nat) {T : Int → Int} {n p : Int} (hT : TX T n) {u : Mem} (hu : Rs_ T n p u) (b m to k : Int) (hb : 0 ≤ b) (hm : 0 ≤ m) (hbm : b + m ≤ 96) (hto : 0 ≤ to ∧ to < 5208) (hk : ixa (u 139) (nmT T n p) b m = k) : CV (d + 4) 248 [137, b, m, to] u (RrP T n p u (nmOk T n p k) (nmF T n p) to k) := by
  refine CV_mono (r_oldOne d hT hu b m to hb hm hbm hto) ?_
  intro r w h
  unfold OkP at h
  rw [hk] at h
  rcases h with ⟨e, on, ne, xf, xv, xr⟩ | ⟨e, xf, x17, ⟨on, x18⟩ | ⟨on, en, x18⟩⟩
  · exact Or.inl ⟨e, ⟨on, ne⟩, xf, xv, xr⟩
  · exact Or.inr ⟨e, fun h => on h.1, xf, by rw [nmF_n on]; exact x18, x17⟩
  · exact Or.inr ⟨e, fun h => h.2 en, xf, by rw [nmF_y on]; exact x18, x17⟩
theorem rr_caller (d : Nat) {T : Int → Int} {n p : Int} (hT : TX T n) {u : Mem} (hu : Rs_ T n p u) (m to k : Int) (hm : 0 ≤ m ∧ m ≤ 5) (h3 : u 138 3 = m) (hto : 0 ≤ to ∧ to < 5208) (hk : ixa (u 139) (nmT T n p) 11 m = k) : CV (d + 5) 265 [137, to] u (RrP T n p u (nmOk T n p k) (nmF T n p) to k) := by
  apply c_R_callerTo
  simp (disch := first | assumption | omega) only [rn, wk, al, wr_e, td_e, tm_e, mset_eq, mset_ne, if_pos, if_neg, Int.reduceAdd, Int.reduceSub, Int.reduceMul, Int.reduceNeg, Int.reduceLT, Int.reduceLE, Int.reduceEq, Int.cast_ofNat_Int, eq_self, and_true, true_and, ite_self, true_or, or_true, false_or, or_false, and_false, false_and, not_true_eq_false, not_false_eq_true, if_true, if_false, e_R_callerTo_0, h3]
  refine EV_call (CV_mono (rr_old d hT hu 11 m to k (by omega) (by omega) (by omega) hto hk) ?_)
  intro r w h
  have h01 := RrP01 h
  simp (disch := first | assumption | omega) only [rn, wk, al, wr_e, td_e, tm_e, mset_eq, mset_ne, if_pos, if_neg, Int.reduceAdd, Int.reduceSub, Int.reduceMul, Int.reduceNeg, Int.reduceLT, Int.reduceLE, Int.reduceEq, Int.cast_ofNat_Int, eq_self, and_true, true_and, ite_self, true_or, or_true, false_or, or_false, and_false, false_and, not_true_eq_false, not_false_eq_true, if_true, if_false, e_R_callerTo_0]
  exact h
theorem rr_place (d : Nat) {T : Int → Int} {n p : Int} (hT : TX T n) {u : Mem} (hu : Rs_ T n p u) (m to k : Int) (hm : 0 ≤ m ∧ m ≤ 7) (h3 : u 138 0 = m) (hto : 0 ≤ to ∧ to < 5208) (hk : ixa (u 139) (nmT T n p) 0 m = k) : CV (d + 5) 266 [137, to] u (RrP T n p u (nmOk T n p k) (nmF T n p) to k) := by
  apply c_R_placeTo
  simp (disch := first | assumption | omega) only [rn, wk, al, wr_e, td_e, tm_e, mset_eq, mset_ne, if_pos, if_neg, Int.reduceAdd, Int.reduceSub, Int.reduceMul, Int.reduceNeg, Int.reduceLT, Int.reduceLE, Int.reduceEq, Int.cast_ofNat_Int, eq_self, and_true, true_and, ite_self, true_or, or_true, false_or, or_false, and_false, false_and, not_true_eq_false, not_false_eq_true, if_true, if_false, e_R_placeTo_0, h3]
  refine EV_call (CV_mono (rr_old d hT hu 0 m to k (by omega) (by omega) (by omega) hto hk) ?_)
  intro r w h
  have h01 := RrP01 h
  simp (disch := first | assumption | omega) only [rn, wk, al, wr_e, td_e, tm_e, mset_eq, mset_ne, if_pos, if_neg, Int.reduceAdd, Int.reduceSub, Int.reduceMul, Int.reduceNeg, Int.reduceLT, Int.reduceLE, Int.reduceEq, Int.cast_ofNat_Int, eq_self, and_true, true_and, ite_self, true_or, or_true, false_or, or_false, and_false, false_and, not_true_eq_false, not_false_eq_true, if_true, if_false, e_R_placeTo_0]
  exact h
theorem rr_number (d : Nat) {T : Int → Int} {n p : Int} (hT : TX T n) {u : Mem} (hu : Rs_ T n p u) (to lo hi : Int) (hto : 0 ≤ to ∧ to < 5208) : CV (d + 3) 237 [137, to, lo, hi] u (RrP T n p u (nOk T n p lo hi) (nF T n p) to (dvT T n p)) := by
  refine CV_mono (r_number d hT hu to lo hi hto) ?_
  rintro r w (⟨e, ok, f, v, x⟩ | ⟨e, nok, f, g8, g9⟩)
  · exact Or.inl ⟨e, ok, f, v, x⟩
  · exact Or.inr ⟨e, nok, fun c i h _ => f c i h, g8, g9⟩
