/-! ===== H2: hall, places slates callers of both readers ===== -/
def HPu (s u : Mem) : Prop := HP (win s 57) (fun i => u 138 (3472 + i)) (fun i => u 139 (64 + i))
def FrH (u w : Mem) : Prop := ∀ c i, ¬ (c = 137 ∧ ((12 ≤ i ∧ i ≤ 15) ∨ (17 ≤ i ∧ i ≤ 20))) → ¬ (c = 138 ∧ 3472 ≤ i ∧ i < 4340) → ¬ (c = 139 ∧ 64 ≤ i ∧ i < 80) → w c i = u c i
def FcH (s t : Mem) : Prop := ∀ c i, ¬ (c = 7 ∧ 3 ≤ i ∧ i ≤ 9) → ¬ (c = 9 ∧ i = 1 ∧ i = 2) → ¬ (57 ≤ c ∧ c ≤ 76) → t c i = s c i
def RlH (T : Int → Int) (n : Int) (s u0 u : Mem) (p : Int) : Prop := HPu s u ∧ Rs_ T n p u ∧ u 137 20 = s 9 1 ∧ FrH u0 u
def OkR (T : Int → Int) (n : Int) (t u0 : Mem) (p1 r' : Int) (w : Mem) : Prop := r' = 1 ∧ RlH T n t u0 w p1
def NoR (u0 : Mem) (k f r' : Int) (w : Mem) : Prop := r' = 0 ∧ FrH u0 w ∧ w 137 18 = k ∧ w 137 17 = f
def AOk (D mi : Nat) (T : Int → Int) (n : Int) (s : Mem) (p : Int) (t : Mem) (p1 : Int) : Prop := ∀ u0 u, RlH T n s u0 u p → CV D mi [137] u (OkR T n t u0 p1)
def ANo (D mi : Nat) (T : Int → Int) (n : Int) (s : Mem) (p k f : Int) : Prop := ∀ u0 u, RlH T n s u0 u p → CV D mi [137] u (NoR u0 k f)
/-- what comes of a part that is read -/
def PX (D mi : Nat) (T : Int → Int) (n p : Int) (s : Mem) (r : Int) (t : Mem) : Prop := FcH s t ∧ ((r = 1 ∧ (t 7 8 = s 7 8 ∧ t 7 9 = s 7 9) ∧ ∃ t1 p1, AOk D mi T n s p t1 p1 ∧ cOk T n p1 ∧ Fta t1 t ∧ Cs T n (tke T n p1) t ∧ p ≤ p1) ∨ (r = 0 ∧ 0 < t 7 8 ∧ (ANo D mi T n s p (t 7 8) (t 7 9) ∨ ∃ t1 p1, AOk D mi T n s p t1 p1 ∧ ¬ cOk T n p1 ∧ (t 7 8 = flt T n p1 2 ∧ t 7 9 = tkq T n p1) ∧ Cs T n p1 t1)))
theorem PX01 {D mi : Nat} {T : Int → Int} {n p : Int} {s : Mem} {r : Int} {t : Mem} (h : PX D mi T n p s r t) : r = 0 ∨ r = 1 := by
  rcases h.2 with ⟨e, -⟩ | ⟨e, -⟩
  · exact Or.inr e
  · exact Or.inl e
theorem flt_p {T : Int → Int} {n p f : Int} (h : 0 < f) : 0 < flt T n p f := by unfold flt; split <;> omega
theorem FrH_t {u v w : Mem} (h1 : FrH u v) (h2 : FrH v w) : FrH u w := fun c i a b e => by rw [h2 c i a b e]; exact h1 c i a b e
theorem HPu_c {s u : Mem} (h : HPu s u) : ((0 ≤ s 57 0 ∧ s 57 0 ≤ 16) ∧ (0 ≤ s 57 1 ∧ s 57 1 ≤ 7) ∧ (0 ≤ s 57 2 ∧ s 57 2 ≤ 10) ∧ (0 ≤ s 57 3 ∧ s 57 3 ≤ 4) ∧ (0 ≤ s 57 4 ∧ s 57 4 ≤ 5) ∧ (0 ≤ s 57 5 ∧ s 57 5 ≤ 8) ∧ (0 ≤ s 57 6 ∧ s 57 6 ≤ 1)) ∧ u 138 3472 = s 57 1 ∧ u 138 3473 = s 57 2 ∧ u 138 3474 = s 57 3 ∧ u 138 3475 = s 57 4 ∧ u 138 3476 = s 57 5 ∧ u 138 3477 = s 57 0 := by
  obtain ⟨c, -, -, -, -, rc, -⟩ := h
  unfold VC at c
  unfold RC at rc
  exact ⟨c, rc.1, rc.2.1, rc.2.2.1, rc.2.2.2.1, rc.2.2.2.2.1, rc.2.2.2.2.2.1⟩
theorem HPu_n {s u : Mem} (h : HPu s u) (nm : Int) : ixa (u 139) nm 64 (s 57 1) = ixa (s 58) nm 0 (s 57 1) ∧ ixa (u 139) nm 71 (s 57 3) = ixa (s 58) nm 7 (s 57 3) ∧ ixa (u 139) nm 75 (s 57 4) = ixa (s 58) nm 11 (s 57 4) := by
  have c := (HPu_c h).1
  obtain ⟨r1, r2, r3⟩ := h.2.2.2.2.2.2.2.1
  have r1' : ∀ i, 0 ≤ i ∧ i < s 57 1 → u 139 (64 + i) = s 58 i := r1
  have r2' : ∀ i, 0 ≤ i ∧ i < s 57 3 → u 139 (64 + (7 + i)) = s 58 (7 + i) := r2
  have r3' : ∀ i, 0 ≤ i ∧ i < s 57 4 → u 139 (64 + (11 + i)) = s 58 (11 + i) := r3
  refine ⟨ixa_congr (by omega) (fun i a b => by rw [r1' i ⟨a, b⟩, Int.zero_add]), ixa_congr (by omega) (fun i a b => by rw [← r2' i ⟨a, b⟩]; congr 1; omega), ixa_congr (by omega) (fun i a b => by rw [← r3' i ⟨a, b⟩]; congr 1; omega)⟩
theorem HPu_f {s u t w : Mem} (h1 : ∀ c i, 57 ≤ c ∧ c ≤ 76 → t c i = s c i) (h2 : ∀ i, w 138 i = u 138 i) (h3 : ∀ i, w 139 i = u 139 i) (h : HPu s u) : HPu t w := by
  have e : ∀ k, 0 ≤ k ∧ k < 20 → win t 57 k = win s 57 k := fun k hk => funext (fun i => h1 (57 + k) i (by omega))
  obtain ⟨c, w_, s_, l, z, rc, rk, rn, zr⟩ := h
  have e2 : (fun i => w 138 (3472 + i)) = (fun i => u 138 (3472 + i)) := funext (fun i => h2 _)
  have e3 : (fun i => w 139 (64 + i)) = (fun i => u 139 (64 + i)) := funext (fun i => h3 _)
  unfold HPu HP
  rw [e2, e3]
  unfold VC VW RW VS RS VL RLc RC RK RN Zr
  rw [e 0 (by omega), e 1 (by omega), e 2 (by omega), e 3 (by omega), e 4 (by omega), e 5 (by omega), e 6 (by omega), e 7 (by omega), e 8 (by omega), e 9 (by omega), e 12 (by omega)]
  exact ⟨c, w_, s_, l, z, rc, rk, rn, zr⟩
theorem q_isOld (d : Nat) {T : Int → Int} {n p : Int} (hT : TX T n) {s u : Mem} (hu : Rs_ T n p u) (hk : tkk T n p = 1) (hp : HPu s u) : ∃ b, ((b = 1 ∧ tkn (s 58) (nmT T n p) (s 57 1) (s 57 3) (s 57 4)) ∨ (b = 0 ∧ ¬ tkn (s 58) (nmT T n p) (s 57 1) (s 57 3) (s 57 4))) ∧ sem (d + 4) 242 [137] u = some (b, u) := by
  obtain ⟨c, k1, k2, k3, k4, k5, k0⟩ := HPu_c hp
  obtain ⟨n1', n2', n3'⟩ := HPu_n hp (nmT T n p)
  have f1 := r_findHere d hT hu hk 64 (s 57 1) (by omega) (by omega) (by omega)
  have f2 := r_findHere d hT hu hk 71 (s 57 3) (by omega) (by omega) (by omega)
  have f3 := r_findHere d hT hu hk 75 (s 57 4) (by omega) (by omega) (by omega)
  rw [n1'] at f1
  rw [n2'] at f2
  rw [n3'] at f3
  by_cases c1 : ixa (s 58) (nmT T n p) 0 (s 57 1) = -1
  · by_cases c2 : ixa (s 58) (nmT T n p) 7 (s 57 3) = -1
    · by_cases c3 : ixa (s 58) (nmT T n p) 11 (s 57 4) = -1
      · refine ⟨0, Or.inr ⟨rfl, fun h => by rcases h with h | h | h; exact h c1; exact h c2; exact h c3⟩, ?_⟩
        apply CV_eq; apply c_R_isOld
        simp (disch := first | assumption | omega) only [rn, wk, al, wr_e, td_e, tm_e, mset_eq, mset_ne, if_pos, if_neg, Int.reduceAdd, Int.reduceSub, Int.reduceMul, Int.reduceNeg, Int.reduceLT, Int.reduceLE, Int.reduceEq, Int.cast_ofNat_Int, eq_self, and_true, true_and, ite_self, true_or, or_true, false_or, or_false, and_false, false_and, not_true_eq_false, not_false_eq_true, if_true, if_false, e_R_isOld_0, e_R_isOld_36, e_R_isOld_38, e_R_isOld_60, e_R_isOld_61, k1, k3, k4, f1, f2, f3, c1, c2, c3]
      · refine ⟨1, Or.inl ⟨rfl, Or.inr (Or.inr c3)⟩, ?_⟩
        apply CV_eq; apply c_R_isOld
        simp (disch := first | assumption | omega) only [rn, wk, al, wr_e, td_e, tm_e, mset_eq, mset_ne, if_pos, if_neg, Int.reduceAdd, Int.reduceSub, Int.reduceMul, Int.reduceNeg, Int.reduceLT, Int.reduceLE, Int.reduceEq, Int.cast_ofNat_Int, eq_self, and_true, true_and, ite_self, true_or, or_true, false_or, or_false, and_false, false_and, not_true_eq_false, not_false_eq_true, if_true, if_false, e_R_isOld_0, e_R_isOld_36, e_R_isOld_38, e_R_isOld_60, e_R_isOld_61, k1, k3, k4, f1, f2, f3, c1, c2, c3]
    · refine ⟨1, Or.inl ⟨rfl, Or.inr (Or.inl c2)⟩, ?_⟩
      apply CV_eq; apply c_R_isOld
      simp (disch := first | assumption | omega) only [rn, wk, al, wr_e, td_e, tm_e, mset_eq, mset_ne, if_pos, if_neg, Int.reduceAdd, Int.reduceSub, Int.reduceMul, Int.reduceNeg, Int.reduceLT, Int.reduceLE, Int.reduceEq, Int.cast_ofNat_Int, eq_self, and_true, true_and, ite_self, true_or, or_true, false_or, or_false, and_false, false_and, not_true_eq_false, not_false_eq_true, if_true, if_false, e_R_isOld_0, e_R_isOld_36, e_R_isOld_38, e_R_isOld_60, e_R_isOld_61, k1, k3, f1, f2, c1, c2]
  · refine ⟨1, Or.inl ⟨rfl, Or.inl c1⟩, ?_⟩
    apply CV_eq; apply c_R_isOld
    simp (disch := first | assumption | omega) only [rn, wk, al, wr_e, td_e, tm_e, mset_eq, mset_ne, if_pos, if_neg, Int.reduceAdd, Int.reduceSub, Int.reduceMul, Int.reduceNeg, Int.reduceLT, Int.reduceLE, Int.reduceEq, Int.cast_ofNat_Int, eq_self, and_true, true_and, ite_self, true_or, or_true, false_or, or_false, and_false, false_and, not_true_eq_false, not_false_eq_true, if_true, if_false, e_R_isOld_0, e_R_isOld_36, e_R_isOld_38, e_R_isOld_60, e_R_isOld_61, k1, f1, c1]
theorem q_isFull (d : Nat) (m x : Int) (u : Mem) (hm : 0 ≤ m ∧ m ≤ 8) : sem (d + 1) 240 [137, m, x] u = some (if u 138 (3472 + m) = x then 1 else 0, u) := by
  apply CV_eq; apply c_R_isFull
  by_cases c : u 138 (3472 + m) = x
  · simp (disch := first | assumption | omega) only [rn, wk, al, wr_e, td_e, tm_e, mset_eq, mset_ne, if_pos, if_neg, Int.reduceAdd, Int.reduceSub, Int.reduceMul, Int.reduceNeg, Int.reduceLT, Int.reduceLE, Int.reduceEq, Int.cast_ofNat_Int, eq_self, and_true, true_and, ite_self, true_or, or_true, false_or, or_false, and_false, false_and, not_true_eq_false, not_false_eq_true, if_true, if_false, e_R_isFull_0, e_R_isFull_18, e_R_isFull_19, c]
  · simp (disch := first | assumption | omega) only [rn, wk, al, wr_e, td_e, tm_e, mset_eq, mset_ne, if_pos, if_neg, Int.reduceAdd, Int.reduceSub, Int.reduceMul, Int.reduceNeg, Int.reduceLT, Int.reduceLE, Int.reduceEq, Int.cast_ofNat_Int, eq_self, and_true, true_and, ite_self, true_or, or_true, false_or, or_false, and_false, false_and, not_true_eq_false, not_false_eq_true, if_true, if_false, e_R_isFull_0, e_R_isFull_18, e_R_isFull_19, c]
/-- a new name, in the reference -/
def NwP (T : Int → Int) (n p : Int) (tk : Prop) (u : Mem) (c0 most so : Int) (r : Int) (w : Mem) : Prop :=
  (c0 = most ∧ NoR u (flt T n p 6) (tkq T n p) r w) ∨ (c0 ≠ most ∧ ((¬ isNm T n (tke T n p) ∧ NoR u (flt T n (tke T n p) 2) (tkq T n (tke T n p)) r w) ∨ (isNm T n (tke T n p) ∧ tk ∧ NoR u (flt T n (tke T n p) 3) (tkq T n (tke T n p)) r w) ∨ (isNm T n (tke T n p) ∧ ¬ tk ∧ r = 1 ∧ (∀ c i, ¬ (c = 137 ∧ 12 ≤ i ∧ i ≤ 15) → ¬ (c = 139 ∧ i = 64 + so + c0) → w c i = u c i) ∧ w 139 (64 + so + c0) = nmT T n (tke T n p) ∧ Rs_ T n (tke T n (tke T n p)) w)))
theorem NoR_f {u v : Mem} {k f : Int} (h : FrH u v) : NoR u k f 0 (mset (mset v 137 18 k) 137 17 f) := ⟨rfl, fun c i a b e => by rw [mset_ne (by omega), mset_ne (by omega)]; exact h c i a b e, by rw [mset_ne (by omega), mset_eq rfl rfl], mset_eq rfl rfl⟩
theorem Fra_H {u w : Mem} (h : Fra u w) : FrH u w := fun c i a _ _ => h c i (by omega)
theorem r_newOne (d : Nat) {T : Int → Int} {n p : Int} (hT : TX T n) {s u : Mem} (hu : Rs_ T n p u) (hp : HPu s u) (m most so c0 : Int) (hm : 0 ≤ m ∧ m ≤ 4) (hc0 : u 138 (3472 + m) = c0) (hb : 0 ≤ c0 ∧ c0 < 16) (hso : 0 ≤ so ∧ so ≤ 11) (hsc : c0 ≠ most → so + c0 < 16) : CV (d + 5) 239 [137, m, most, so] u (NwP T n p (tkn (s 58) (nmT T n (tke T n p)) (s 57 1) (s 57 3) (s 57 4)) u c0 most so) := by
  have qi := q_isFull (d + 3) m most u (by omega)
  rw [hc0] at qi
  apply c_R_newOne
  by_cases c : c0 = most
  · rw [if_pos c] at qi
    have q6 := q_Rfails (d + 3) u 6 hu
    have hpost : NwP T n p (tkn (s 58) (nmT T n (tke T n p)) (s 57 1) (s 57 3) (s 57 4)) u c0 most so 0 (mset (mset u 137 18 (flt T n p 6)) 137 17 (tkq T n p)) := Or.inl ⟨c, NoR_f (fun _ _ _ _ _ => rfl)⟩
    simp (disch := first | assumption | omega) only [rn, wk, al, wr_e, td_e, tm_e, mset_eq, mset_ne, if_pos, if_neg, Int.reduceAdd, Int.reduceSub, Int.reduceMul, Int.reduceNeg, Int.reduceLT, Int.reduceLE, Int.reduceEq, Int.cast_ofNat_Int, eq_self, and_true, true_and, ite_self, true_or, or_true, false_or, or_false, and_false, false_and, not_true_eq_false, not_false_eq_true, if_true, if_false, e_R_newOne_0, e_R_newOne_16, e_R_newOne_35, e_R_newOne_48, qi, q6]
    exact hpost
  · rw [if_neg c] at qi
    have hsc' := hsc c
    simp (disch := first | assumption | omega) only [rn, wk, al, wr_e, td_e, tm_e, mset_eq, mset_ne, if_pos, if_neg, Int.reduceAdd, Int.reduceSub, Int.reduceMul, Int.reduceNeg, Int.reduceLT, Int.reduceLE, Int.reduceEq, Int.cast_ofNat_Int, eq_self, and_true, true_and, ite_self, true_or, or_true, false_or, or_false, and_false, false_and, not_true_eq_false, not_false_eq_true, if_true, if_false, e_R_newOne_0, e_R_newOne_16, e_R_newOne_35, e_R_newOne_48, qi]
    refine EV_call (CV_mono (r_ahd (d + 2) hT hu) ?_)
    rintro r v ⟨a, b⟩
    have va : FrH u v := Fra_H a
    obtain ⟨x, hx, qn⟩ := r_isName (d + 1) hT b
    rcases hx with ⟨e, hx⟩ | ⟨e, hx⟩
    · subst e
      have hpv : HPu s v := HPu_f (fun _ _ _ => rfl) (fun i => a _ _ (by omega)) (fun i => a _ _ (by omega)) hp
      obtain ⟨y, hy, qo⟩ := q_isOld d hT b hx.1 hpv
      rcases hy with ⟨e, hy⟩ | ⟨e, hy⟩
      · subst e
        have q3 := q_Rfails (d + 3) v 3 b
        have hpost : NwP T n p (tkn (s 58) (nmT T n (tke T n p)) (s 57 1) (s 57 3) (s 57 4)) u c0 most so 0 (mset (mset v 137 18 (flt T n (tke T n p) 3)) 137 17 (tkq T n (tke T n p))) := Or.inr ⟨c, Or.inr (Or.inl ⟨hx, hy, NoR_f va⟩)⟩
        simp (disch := first | assumption | omega) only [rn, wk, al, wr_e, td_e, tm_e, mset_eq, mset_ne, if_pos, if_neg, Int.reduceAdd, Int.reduceSub, Int.reduceMul, Int.reduceNeg, Int.reduceLT, Int.reduceLE, Int.reduceEq, Int.cast_ofNat_Int, eq_self, and_true, true_and, ite_self, true_or, or_true, false_or, or_false, and_false, false_and, not_true_eq_false, not_false_eq_true, if_true, if_false, e_R_newOne_0, e_R_newOne_16, e_R_newOne_35, e_R_newOne_48, qn, qo, q3]
        exact hpost
      · subst e
        have qh := r_nameHere (d + 2) hT b hx.1
        have v0 : v 138 (3472 + m) = c0 := by rw [a _ _ (by omega)]; exact hc0
        obtain ⟨w, hw⟩ : ∃ w, w = mset v 139 (64 + so + c0) (nmT T n (tke T n p)) := ⟨_, rfl⟩
        have wf : ∀ c i, ¬ (c = 139 ∧ i = 64 + so + c0) → w c i = v c i := fun c i hc => by rw [hw, mset_ne (by omega)]
        have hw2 : Rs_ T n (tke T n p) w := Rs_w (fun i _ => wf _ _ (by omega)) (fun i => wf _ _ (by omega)) b
        simp (disch := first | assumption | omega) only [rn, wk, al, wr_e, td_e, tm_e, mset_eq, mset_ne, if_pos, if_neg, Int.reduceAdd, Int.reduceSub, Int.reduceMul, Int.reduceNeg, Int.reduceLT, Int.reduceLE, Int.reduceEq, Int.cast_ofNat_Int, eq_self, and_true, true_and, ite_self, true_or, or_true, false_or, or_false, and_false, false_and, not_true_eq_false, not_false_eq_true, if_true, if_false, e_R_newOne_0, e_R_newOne_16, e_R_newOne_35, e_R_newOne_48, qn, qo, v0, qh, ← hw]
        refine EV_call (CV_mono (r_ahd (d + 2) hT hw2) ?_)
        rintro r2 z ⟨a2, b2⟩
        have hpost : NwP T n p (tkn (s 58) (nmT T n (tke T n p)) (s 57 1) (s 57 3) (s 57 4)) u c0 most so 1 z := Or.inr ⟨c, Or.inr (Or.inr ⟨hx, hy, rfl, fun c i h1 h2 => by rw [a2 c i h1, wf c i h2, a c i h1], by rw [a2 _ _ (by omega), hw, mset_eq rfl rfl], b2⟩)⟩
        simp (disch := first | assumption | omega) only [rn, wk, al, wr_e, td_e, tm_e, mset_eq, mset_ne, if_pos, if_neg, Int.reduceAdd, Int.reduceSub, Int.reduceMul, Int.reduceNeg, Int.reduceLT, Int.reduceLE, Int.reduceEq, Int.cast_ofNat_Int, eq_self, and_true, true_and, ite_self, true_or, or_true, false_or, or_false, and_false, false_and, not_true_eq_false, not_false_eq_true, if_true, if_false, e_R_newOne_0, e_R_newOne_16, e_R_newOne_35, e_R_newOne_48]
        exact hpost
    · subst e
      have q2 := q_Rfails (d + 3) v 2 b
      have hpost : NwP T n p (tkn (s 58) (nmT T n (tke T n p)) (s 57 1) (s 57 3) (s 57 4)) u c0 most so 0 (mset (mset v 137 18 (flt T n (tke T n p) 2)) 137 17 (tkq T n (tke T n p))) := Or.inr ⟨c, Or.inl ⟨hx, NoR_f va⟩⟩
      simp (disch := first | assumption | omega) only [rn, wk, al, wr_e, td_e, tm_e, mset_eq, mset_ne, if_pos, if_neg, Int.reduceAdd, Int.reduceSub, Int.reduceMul, Int.reduceNeg, Int.reduceLT, Int.reduceLE, Int.reduceEq, Int.cast_ofNat_Int, eq_self, and_true, true_and, ite_self, true_or, or_true, false_or, or_false, and_false, false_and, not_true_eq_false, not_false_eq_true, if_true, if_false, e_R_newOne_0, e_R_newOne_16, e_R_newOne_35, e_R_newOne_48, qn, q2]
      exact hpost
theorem NoR_u {u0 u w : Mem} {k f r : Int} (h : FrH u0 u) (h2 : NoR u k f r w) : NoR u0 k f r w := ⟨h2.1, FrH_t h h2.2.1, h2.2.2⟩
theorem Cs_f {T : Int → Int} {n p : Int} {s t : Mem} (h : ∀ c i, (c = 7 ∧ (i = 2 ∨ i = 3)) ∨ c = 8 → t c i = s c i) (hs : Cs T n p s) : Cs T n p t := ⟨hs.1, by rw [h _ _ (by omega)]; exact hs.2.1, by rw [h _ _ (by omega)]; exact hs.2.2.1, fun i hi => by rw [h _ _ (by omega)]; exact hs.2.2.2 i hi⟩
/-- the end of a part -/
theorem PX_fin {D mi : Nat} {T : Int → Int} {n p : Int} {s t1 : Mem} {p1 : Int} (hf : FcH s t1) (h8 : t1 7 8 = s 7 8 ∧ t1 7 9 = s 7 9) (hpp : p ≤ p1) (hc : Cs T n p1 t1) (hA : AOk D mi T n s p t1 p1) {r : Int} {t : Mem} (h : CkP T n p1 t1 (cOk T n p1) 2 r t) : PX D mi T n p s r t := by
  rcases h with ⟨e, ok, f, -, c⟩ | ⟨e, nok, f, g8, g9⟩
  · exact ⟨fun c i a b e => by rw [f c i (by omega)]; exact hf c i a b e, Or.inl ⟨e, ⟨by rw [f _ _ (by omega)]; exact h8.1, by rw [f _ _ (by omega)]; exact h8.2⟩, t1, p1, hA, ok, f, c, hpp⟩⟩
  · exact ⟨fun c i a b e => by rw [f c i a]; exact hf c i a b e, Or.inr ⟨e, by rw [g8]; exact flt_p (by omega), Or.inr ⟨t1, p1, hA, nok, ⟨g8, g9⟩, hc⟩⟩⟩
theorem PX_no {D mi : Nat} {T : Int → Int} {n p : Int} {s t : Mem} {k f : Int} (hf : Ftf s t) (g8 : t 7 8 = k) (g9 : t 7 9 = f) (hk : 0 < k) (hA : ANo D mi T n s p k f) : PX D mi T n p s 0 t := ⟨fun c i a _ _ => hf c i a, Or.inr ⟨rfl, by rw [g8]; exact hk, Or.inl (by rw [g8, g9]; exact hA)⟩⟩
theorem Ftf_r {s t : Mem} (h : Fta s t) {a b : Int} : Ftf s (mset (mset t 7 8 a) 7 9 b) := fun c i hc => by rw [mset_ne (by omega), mset_ne (by omega)]; exact h c i (by omega)
theorem x_place (d D : Nat) {T : Int → Int} {n p : Int} (hT : TX T n) {s : Mem} (hp : 0 ≤ p ∧ p ≤ n) (hk : TkC T n p s) (hs : Cs T n (tke T n p) s) (hV : ∃ u, HPu s u) : CV (d + 6) 42 [9, 57] s (PX (D + 6) 238 T n p s) := by
  obtain ⟨v, hv⟩ := hV
  obtain ⟨c0, -⟩ := HPu_c hv
  obtain ⟨tb1, tb2, -⟩ := tke_b (T := T) hp
  obtain ⟨ub1, ub2, -⟩ := tke_b (T := T) hs.1
  have ref : ∀ u0 u, RlH T n s u0 u p → CV (D + 5) 239 [137, 0, 7, 0] u (NwP T n p (tkn (s 58) (nmT T n (tke T n p)) (s 57 1) (s 57 3) (s 57 4)) u (s 57 1) 7 0) := fun u0 u hu => r_newOne D hT hu.2.1 hu.1 0 7 0 (s 57 1) (by omega) (HPu_c hu.1).2.1 (by omega) (by omega) (by omega)
  have no : ∀ k f, (∀ u r w, NwP T n p (tkn (s 58) (nmT T n (tke T n p)) (s 57 1) (s 57 3) (s 57 4)) u (s 57 1) 7 0 r w → NoR u k f r w) → ANo (D + 6) 238 T n s p k f := fun k f h u0 u hu => by
    apply c_R_aPlace
    simp (disch := first | assumption | omega) only [rn, wk, al, wr_e, td_e, tm_e, mset_eq, mset_ne, if_pos, if_neg, Int.reduceAdd, Int.reduceSub, Int.reduceMul, Int.reduceNeg, Int.reduceLT, Int.reduceLE, Int.reduceEq, Int.cast_ofNat_Int, eq_self, and_true, true_and, ite_self, true_or, or_true, false_or, or_false, and_false, false_and, not_true_eq_false, not_false_eq_true, if_true, if_false, e_R_aPlace_0, e_R_aPlace_13]
    refine EV_call (CV_mono (ref u0 u hu) ?_)
    intro r w hw
    have hn := NoR_u hu.2.2.2 (h u r w hw)
    obtain ⟨e, hn'⟩ := id hn
    subst e
    simp (disch := first | assumption | omega) only [rn, wk, al, wr_e, td_e, tm_e, mset_eq, mset_ne, if_pos, if_neg, Int.reduceAdd, Int.reduceSub, Int.reduceMul, Int.reduceNeg, Int.reduceLT, Int.reduceLE, Int.reduceEq, Int.cast_ofNat_Int, eq_self, and_true, true_and, ite_self, true_or, or_true, false_or, or_false, and_false, false_and, not_true_eq_false, not_false_eq_true, if_true, if_false, e_R_aPlace_0, e_R_aPlace_13]
    exact hn
  apply c_HallReader_readPlace
  by_cases c7 : s 57 1 = 7
  · have q6 := q_Trefuse (d + 4) s 6 hk
    have hp2 : PX (D + 6) 238 T n p s 0 (mset (mset s 7 8 (flt T n p 6)) 7 9 (tkq T n p)) := PX_no (Ftf_r (fun _ _ _ => rfl)) (by rw [mset_ne (by omega), mset_eq rfl rfl]) (mset_eq rfl rfl) (flt_p (by omega)) (no _ _ (fun u r w h => by
      rcases h with ⟨-, h⟩ | ⟨h, -⟩
      · exact h
      · exact absurd c7 h))
    simp (disch := first | assumption | omega) only [rn, wk, al, wr_e, td_e, tm_e, mset_eq, mset_ne, if_pos, if_neg, Int.reduceAdd, Int.reduceSub, Int.reduceMul, Int.reduceNeg, Int.reduceLT, Int.reduceLE, Int.reduceEq, Int.cast_ofNat_Int, eq_self, and_true, true_and, ite_self, true_or, or_true, false_or, or_false, and_false, false_and, not_true_eq_false, not_false_eq_true, if_true, if_false, e_HallReader_readPlace_0, e_HallReader_readPlace_19, e_HallReader_readPlace_29, c7, q6]
    exact hp2
  · simp (disch := first | assumption | omega) only [rn, wk, al, wr_e, td_e, tm_e, mset_eq, mset_ne, if_pos, if_neg, Int.reduceAdd, Int.reduceSub, Int.reduceMul, Int.reduceNeg, Int.reduceLT, Int.reduceLE, Int.reduceEq, Int.cast_ofNat_Int, eq_self, and_true, true_and, ite_self, true_or, or_true, false_or, or_false, and_false, false_and, not_true_eq_false, not_false_eq_true, if_true, if_false, e_HallReader_readPlace_0, e_HallReader_readPlace_19, e_HallReader_readPlace_29]
    refine EV_call (CV_mono (q_newNameNext (d + 1) hT hs (by omega) (by omega) (by omega)) ?_)
    rintro r t (⟨e, ok, ntk, f, k, c⟩ | ⟨e, f, g9, g⟩)
    · subst e
      have g7 : t 7 7 = nmT T n (tke T n p) := (k.2.2.2.2.1 ok.1).2
      have t1 : t 57 1 = s 57 1 := f _ _ (by omega)
      obtain ⟨t1', ht1⟩ : ∃ t1', t1' = mset (mset t 58 (s 57 1) (nmT T n (tke T n p))) 57 1 (s 57 1 + 1) := ⟨_, rfl⟩
      have tf : ∀ c i, ¬ (c = 58 ∧ i = s 57 1) → ¬ (c = 57 ∧ i = 1) → t1' c i = t c i := fun c i h1 h2 => by rw [ht1, mset_ne (by omega), mset_ne (by omega)]
      have qa : sem (d + 5) 50 [57, nmT T n (tke T n p)] t = some (0, t1') := by
        apply CV_eq; apply c_Hall_addPlace
        simp (disch := first | assumption | omega) only [rn, wk, al, wr_e, td_e, tm_e, mset_eq, mset_ne, if_pos, if_neg, Int.reduceAdd, Int.reduceSub, Int.reduceMul, Int.reduceNeg, Int.reduceLT, Int.reduceLE, Int.reduceEq, Int.cast_ofNat_Int, eq_self, and_true, true_and, ite_self, true_or, or_true, false_or, or_false, and_false, false_and, not_true_eq_false, not_false_eq_true, if_true, if_false, e_Hall_addPlace_0, t1, ← ht1]
      have hA : AOk (D + 6) 238 T n s p t1' (tke T n (tke T n p)) := fun u0 u hu => by
        have cu := (HPu_c hu.1).2
        apply c_R_aPlace
        simp (disch := first | assumption | omega) only [rn, wk, al, wr_e, td_e, tm_e, mset_eq, mset_ne, if_pos, if_neg, Int.reduceAdd, Int.reduceSub, Int.reduceMul, Int.reduceNeg, Int.reduceLT, Int.reduceLE, Int.reduceEq, Int.cast_ofNat_Int, eq_self, and_true, true_and, ite_self, true_or, or_true, false_or, or_false, and_false, false_and, not_true_eq_false, not_false_eq_true, if_true, if_false, e_R_aPlace_0, e_R_aPlace_13]
        refine EV_call (CV_mono (ref u0 u hu) ?_)
        rintro r w (⟨h, -⟩ | ⟨-, ⟨h, -⟩ | ⟨-, h, -⟩ | ⟨-, -, e, w1, w2, w3⟩⟩)
        · exact absurd h c7
        · exact absurd ok h
        · exact absurd h ntk
        · subst e
          have w0 : w 138 3472 = s 57 1 := by rw [w1 _ _ (by omega) (by omega)]; exact cu.1
          obtain ⟨z, hz⟩ : ∃ z, z = mset w 138 3472 (s 57 1 + 1) := ⟨_, rfl⟩
          have zf : ∀ c i, ¬ (c = 138 ∧ i = 3472) → z c i = w c i := fun c i h => by rw [hz, mset_ne (by omega)]
          have hpost : OkR T n t1' u0 (tke T n (tke T n p)) 1 z := by
            refine ⟨rfl, ?_, Rs_w (fun i _ => zf _ _ (by omega)) (fun i => zf _ _ (by omega)) w3, ?_, fun c i h1 h2 h3 => ?_⟩
            · refine HP_place (m := s 57 1) (v := nmT T n (tke T n p)) hu.1 rfl (by omega) (fun k i hk h1 h2 => ?_) ?_ ?_ (fun i h1 h2 h3 => ?_) ?_ (fun i h1 h2 h3 => ?_) ?_
              · show t1' (57 + k) i = s (57 + k) i
                rw [tf _ _ (by omega) (by omega)]; exact f _ _ (by omega)
              · show t1' 57 1 = _
                rw [ht1, mset_eq rfl rfl]
              · show t1' 58 _ = _
                rw [ht1, mset_ne (by omega), mset_eq rfl rfl]
              · show z 138 (3472 + i) = u 138 (3472 + i)
                rw [zf _ _ (by omega)]; exact w1 _ _ (by omega) (by omega)
              · show z 138 3472 = _
                rw [hz, mset_eq rfl rfl]
              · show z 139 (64 + i) = u 139 (64 + i)
                rw [zf _ _ (by omega)]; exact w1 _ _ (by omega) (by omega)
              · show z 139 (64 + s 57 1) = _
                rw [zf _ _ (by omega), ← w2]; congr 1
            · rw [zf _ _ (by omega), w1 _ _ (by omega) (by omega), tf _ _ (by omega) (by omega), f _ _ (by omega)]; exact hu.2.2.1
            · rw [zf _ _ (by omega), w1 _ _ (by omega) (by omega)]; exact hu.2.2.2 c i h1 h2 h3
          simp (disch := first | assumption | omega) only [rn, wk, al, wr_e, td_e, tm_e, mset_eq, mset_ne, if_pos, if_neg, Int.reduceAdd, Int.reduceSub, Int.reduceMul, Int.reduceNeg, Int.reduceLT, Int.reduceLE, Int.reduceEq, Int.cast_ofNat_Int, eq_self, and_true, true_and, ite_self, true_or, or_true, false_or, or_false, and_false, false_and, not_true_eq_false, not_false_eq_true, if_true, if_false, e_R_aPlace_0, e_R_aPlace_13, w0, ← hz]
          exact hpost
      have hc1 : Cs T n (tke T n (tke T n p)) t1' := Cs_f (fun c i h => tf c i (by omega) (by omega)) c
      simp (disch := first | assumption | omega) only [rn, wk, al, wr_e, td_e, tm_e, mset_eq, mset_ne, if_pos, if_neg, Int.reduceAdd, Int.reduceSub, Int.reduceMul, Int.reduceNeg, Int.reduceLT, Int.reduceLE, Int.reduceEq, Int.cast_ofNat_Int, eq_self, and_true, true_and, ite_self, true_or, or_true, false_or, or_false, and_false, false_and, not_true_eq_false, not_false_eq_true, if_true, if_false, e_HallReader_readPlace_0, e_HallReader_readPlace_19, e_HallReader_readPlace_29, g7, qa]
      refine EV_call (CV_mono (q_closeNext (d + 2) hT hc1) ?_)
      intro r2 t2 h2
      have h01 := CkP01 h2
      have hfin : PX (D + 6) 238 T n p s r2 t2 := PX_fin (fun c i a b e => by rw [tf c i (by omega) (by omega)]; exact f c i (by omega)) ⟨by rw [tf _ _ (by omega) (by omega)]; exact f _ _ (by omega), by rw [tf _ _ (by omega) (by omega)]; exact f _ _ (by omega)⟩ (by omega) hc1 hA h2
      simp (disch := first | assumption | omega) only [rn, wk, al, wr_e, td_e, tm_e, mset_eq, mset_ne, if_pos, if_neg, Int.reduceAdd, Int.reduceSub, Int.reduceMul, Int.reduceNeg, Int.reduceLT, Int.reduceLE, Int.reduceEq, Int.cast_ofNat_Int, eq_self, and_true, true_and, ite_self, true_or, or_true, false_or, or_false, and_false, false_and, not_true_eq_false, not_false_eq_true, if_true, if_false, e_HallReader_readPlace_0, e_HallReader_readPlace_19, e_HallReader_readPlace_29]
      exact hfin
    · subst e
      have hfin : PX (D + 6) 238 T n p s 0 t := by
        rcases g with ⟨nok, g8⟩ | ⟨ok, tk, g8⟩
        · exact PX_no f g8 g9 (flt_p (by omega)) (no _ _ (fun u r w h => by
            rcases h with ⟨h, -⟩ | ⟨-, ⟨-, h⟩ | ⟨h, -⟩ | ⟨h, -⟩⟩
            · exact absurd h c7
            · exact h
            · exact absurd h nok
            · exact absurd h nok))
        · exact PX_no f g8 g9 (flt_p (by omega)) (no _ _ (fun u r w h => by
            rcases h with ⟨h, -⟩ | ⟨-, ⟨h, -⟩ | ⟨-, -, h⟩ | ⟨-, h, -⟩⟩
            · exact absurd h c7
            · exact absurd ok h
            · exact h
            · exact absurd tk h))
      simp (disch := first | assumption | omega) only [rn, wk, al, wr_e, td_e, tm_e, mset_eq, mset_ne, if_pos, if_neg, Int.reduceAdd, Int.reduceSub, Int.reduceMul, Int.reduceNeg, Int.reduceLT, Int.reduceLE, Int.reduceEq, Int.cast_ofNat_Int, eq_self, and_true, true_and, ite_self, true_or, or_true, false_or, or_false, and_false, false_and, not_true_eq_false, not_false_eq_true, if_true, if_false, e_HallReader_readPlace_0, e_HallReader_readPlace_19, e_HallReader_readPlace_29]
      exact hfin
