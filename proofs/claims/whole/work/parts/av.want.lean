/-! ===== H2: what both want of a token ===== -/
def Cs (T : Int → Int) (n p : Int) (s : Mem) : Prop := (0 ≤ p ∧ p ≤ n) ∧ s 7 3 = p ∧ s 7 2 = n ∧ ∀ i, 0 ≤ i ∧ i < n → s 8 i = T i
def Rs_ (T : Int → Int) (n p : Int) (u : Mem) : Prop := (0 ≤ p ∧ p ≤ n) ∧ TkR T n p u ∧ (u 137 18 = 0 ∧ u 137 17 = -1) ∧ ∀ i, 0 ≤ i ∧ i < n → u 144 i = T i
def flt (T : Int → Int) (n p f : Int) : Int := if tkk T n p = 4 then 1 else f
def isNm (T : Int → Int) (n p : Int) : Prop := tkk T n p = 1 ∧ wnT T n p = -1 ∧ tke T n p - tkq T n p ≤ 8
def Ftf (s t : Mem) : Prop := ∀ c i, ¬ (c = 7 ∧ 3 ≤ i ∧ i ≤ 9) → t c i = s c i
def Frf (u w : Mem) : Prop := ∀ c i, ¬ (c = 137 ∧ (i = 17 ∨ i = 18)) → w c i = u c i
/-- the class stands at a token's end, or has a fault -/
def CkP (T : Int → Int) (n p : Int) (s : Mem) (ok : Prop) (f : Int) (r : Int) (t : Mem) : Prop := (r = 1 ∧ ok ∧ Fta s t ∧ TkC T n p t ∧ Cs T n (tke T n p) t) ∨ (r = 0 ∧ ¬ ok ∧ Ftf s t ∧ t 7 8 = flt T n p f ∧ t 7 9 = tkq T n p)
def RkP (T : Int → Int) (n p : Int) (u : Mem) (ok : Prop) (f : Int) (r : Int) (w : Mem) : Prop := (r = 1 ∧ ok ∧ Fra u w ∧ Rs_ T n (tke T n p) w) ∨ (r = 0 ∧ ¬ ok ∧ Frf u w ∧ w 137 18 = flt T n p f ∧ w 137 17 = tkq T n p)
theorem tkk_b {T : Int → Int} {n p : Int} : 0 ≤ tkk T n p ∧ tkk T n p ≤ 4 := by
  unfold tkk
  repeat' split
  all_goals omega
theorem Cs_te {T : Int → Int} {n p : Int} {s t : Mem} (hs : Cs T n p s) (hf : Fta s t) (hk : TkC T n p t) : Cs T n (tke T n p) t := by
  obtain ⟨b1, b2, -⟩ := tke_b (T := T) hs.1
  have h1 := hs.1
  exact ⟨by omega, hk.2.2.1, hk.1, fun i hi => by rw [hf _ _ (by omega)]; exact hs.2.2.2 i hi⟩
theorem c_adv (d : Nat) {T : Int → Int} {n p : Int} (hT : TX T n) {s : Mem} (hs : Cs T n p s) : CV (d + 2) 25 [7] s fun _ t => Fta s t ∧ TkC T n p t ∧ Cs T n (tke T n p) t := by
  refine CV_mono (q_advance d s T n p hT hs.2.2.2 hs.2.2.1 hs.2.1 hs.1) ?_
  rintro r t ⟨a, b⟩
  exact ⟨a, b, Cs_te hs a b⟩
theorem q_Trefuse (d : Nat) (t : Mem) (f : Int) {T : Int → Int} {n p : Int} (hk : TkC T n p t) : sem (d + 1) 37 [7, f] t = some (0, mset (mset t 7 8 (flt T n p f)) 7 9 (tkq T n p)) := by
  obtain ⟨-, h5, -, h4, -⟩ := hk
  unfold flt
  apply CV_eq; apply c_Tokens_refuse
  by_cases c : tkk T n p = 4
  · rw [if_pos c]
    rw [c] at h4
    simp (disch := first | assumption | omega) only [rn, wk, al, wr_e, td_e, tm_e, mset_eq, mset_ne, if_pos, if_neg, Int.reduceAdd, Int.reduceSub, Int.reduceMul, Int.reduceNeg, Int.reduceLT, Int.reduceLE, Int.reduceEq, Int.cast_ofNat_Int, eq_self, and_true, true_and, ite_self, true_or, or_true, false_or, or_false, and_false, false_and, not_true_eq_false, not_false_eq_true, if_true, if_false, e_Tokens_refuse_0, e_Tokens_refuse_13, e_Tokens_refuse_14, h4, h5]
  · rw [if_neg c]
    simp (disch := first | assumption | omega) only [rn, wk, al, wr_e, td_e, tm_e, mset_eq, mset_ne, if_pos, if_neg, Int.reduceAdd, Int.reduceSub, Int.reduceMul, Int.reduceNeg, Int.reduceLT, Int.reduceLE, Int.reduceEq, Int.cast_ofNat_Int, eq_self, and_true, true_and, ite_self, true_or, or_true, false_or, or_false, and_false, false_and, not_true_eq_false, not_false_eq_true, if_true, if_false, e_Tokens_refuse_0, e_Tokens_refuse_13, e_Tokens_refuse_14, h4, h5]
theorem q_Rfails (d : Nat) (u : Mem) (f : Int) {T : Int → Int} {n p : Int} (hk : Rs_ T n p u) : sem (d + 1) 236 [137, f] u = some (0, mset (mset u 137 18 (flt T n p f)) 137 17 (tkq T n p)) := by
  obtain ⟨-, ⟨-, h13, -, h12, -⟩, h18, -⟩ := hk
  have hb := tkk_b (T := T) (n := n) (p := p)
  unfold flt
  apply CV_eq; apply c_R_fails
  by_cases c : tkk T n p = 4
  · rw [if_pos c]
    have e : u 137 12 = 1 := by rw [h12, c]; rfl
    simp (disch := first | assumption | omega) only [rn, wk, al, wr_e, td_e, tm_e, mset_eq, mset_ne, if_pos, if_neg, Int.reduceAdd, Int.reduceSub, Int.reduceMul, Int.reduceNeg, Int.reduceLT, Int.reduceLE, Int.reduceEq, Int.cast_ofNat_Int, eq_self, and_true, true_and, ite_self, true_or, or_true, false_or, or_false, and_false, false_and, not_true_eq_false, not_false_eq_true, if_true, if_false, e_R_fails_0, e_R_fails_20, e_R_fails_21, e_R_fails_32, e, h13, h18]
  · rw [if_neg c]
    have e : u 137 12 ≠ 1 := by
      rw [h12]; unfold kr
      repeat' split
      all_goals omega
    simp (disch := first | assumption | omega) only [rn, wk, al, wr_e, td_e, tm_e, mset_eq, mset_ne, if_pos, if_neg, Int.reduceAdd, Int.reduceSub, Int.reduceMul, Int.reduceNeg, Int.reduceLT, Int.reduceLE, Int.reduceEq, Int.cast_ofNat_Int, eq_self, and_true, true_and, ite_self, true_or, or_true, false_or, or_false, and_false, false_and, not_true_eq_false, not_false_eq_true, if_true, if_false, e_R_fails_0, e_R_fails_20, e_R_fails_21, e_R_fails_32, e, h13, h18]
theorem Cfail {T : Int → Int} {n p : Int} {s t : Mem} {ok : Prop} {f : Int} (hn : ¬ ok) (hf : Fta s t) : CkP T n p s ok f 0 (mset (mset t 7 8 (flt T n p f)) 7 9 (tkq T n p)) :=
  Or.inr ⟨rfl, hn, fun c i hc => by rw [mset_ne (by omega), mset_ne (by omega)]; exact hf c i (by omega), by rw [mset_ne (by omega), mset_eq rfl rfl], mset_eq rfl rfl⟩
theorem Rfail {T : Int → Int} {n p : Int} {u : Mem} {ok : Prop} {f : Int} (hn : ¬ ok) : RkP T n p u ok f 0 (mset (mset u 137 18 (flt T n p f)) 137 17 (tkq T n p)) :=
  Or.inr ⟨rfl, hn, fun c i hc => by rw [mset_ne (by omega), mset_ne (by omega)], by rw [mset_ne (by omega), mset_eq rfl rfl], mset_eq rfl rfl⟩
theorem q_Tword (d : Nat) (t : Mem) {T : Int → Int} {n p : Int} (hk : TkC T n p t) : sem (d + 1) 35 [7] t = some (if tkk T n p = 1 then wnT T n p else -1, t) := by
  obtain ⟨-, -, -, h4, h1, -⟩ := hk
  apply CV_eq; apply c_Tokens_word
  by_cases c : tkk T n p = 1
  · have h6 := (h1 c).1
    rw [c] at h4
    rw [if_pos c]
    simp (disch := first | assumption | omega) only [rn, wk, al, wr_e, td_e, tm_e, mset_eq, mset_ne, if_pos, if_neg, Int.reduceAdd, Int.reduceSub, Int.reduceMul, Int.reduceNeg, Int.reduceLT, Int.reduceLE, Int.reduceEq, Int.cast_ofNat_Int, eq_self, and_true, true_and, ite_self, true_or, or_true, false_or, or_false, and_false, false_and, not_true_eq_false, not_false_eq_true, if_true, if_false, e_Tokens_word_0, e_Tokens_word_15, e_Tokens_word_16, h4, h6]
  · rw [if_neg c]
    simp (disch := first | assumption | omega) only [rn, wk, al, wr_e, td_e, tm_e, mset_eq, mset_ne, if_pos, if_neg, Int.reduceAdd, Int.reduceSub, Int.reduceMul, Int.reduceNeg, Int.reduceLT, Int.reduceLE, Int.reduceEq, Int.cast_ofNat_Int, eq_self, and_true, true_and, ite_self, true_or, or_true, false_or, or_false, and_false, false_and, not_true_eq_false, not_false_eq_true, if_true, if_false, e_Tokens_word_0, e_Tokens_word_15, e_Tokens_word_16, h4]
def wOk (T : Int → Int) (n p w : Int) : Prop := tkk T n p = 1 ∧ wnT T n p = w
theorem q_wordNext (d : Nat) {T : Int → Int} {n p : Int} (hT : TX T n) {s : Mem} (hs : Cs T n p s) (w : Int) (hw : 0 ≤ w) : CV (d + 3) 53 [7, w] s (CkP T n p s (wOk T n p w) 2) := by
  apply c_Tokens_wordNext
  simp (disch := first | assumption | omega) only [rn, wk, al, wr_e, td_e, tm_e, mset_eq, mset_ne, if_pos, if_neg, Int.reduceAdd, Int.reduceSub, Int.reduceMul, Int.reduceNeg, Int.reduceLT, Int.reduceLE, Int.reduceEq, Int.cast_ofNat_Int, eq_self, and_true, true_and, ite_self, true_or, or_true, false_or, or_false, and_false, false_and, not_true_eq_false, not_false_eq_true, if_true, if_false, e_Tokens_wordNext_0, e_Tokens_wordNext_20, e_Tokens_wordNext_24, e_Tokens_wordNext_25]
  refine EV_call (CV_mono (c_adv d hT hs) ?_)
  rintro r t ⟨a, b, c⟩
  have qw := q_Tword (d + 1) t b
  have qr := q_Trefuse (d + 1) t 2 b
  by_cases e1 : tkk T n p = 1
  · rw [if_pos e1] at qw
    by_cases e2 : wnT T n p = w
    · have hp : CkP T n p s (wOk T n p w) 2 1 t := Or.inl ⟨rfl, ⟨e1, e2⟩, a, b, c⟩
      simp (disch := first | assumption | omega) only [rn, wk, al, wr_e, td_e, tm_e, mset_eq, mset_ne, if_pos, if_neg, Int.reduceAdd, Int.reduceSub, Int.reduceMul, Int.reduceNeg, Int.reduceLT, Int.reduceLE, Int.reduceEq, Int.cast_ofNat_Int, eq_self, and_true, true_and, ite_self, true_or, or_true, false_or, or_false, and_false, false_and, not_true_eq_false, not_false_eq_true, if_true, if_false, e_Tokens_wordNext_0, e_Tokens_wordNext_20, e_Tokens_wordNext_24, e_Tokens_wordNext_25, qw, e2]
      exact hp
    · have hp := Cfail (T := T) (n := n) (p := p) (ok := wOk T n p w) (f := 2) (fun h => e2 h.2) a
      simp (disch := first | assumption | omega) only [rn, wk, al, wr_e, td_e, tm_e, mset_eq, mset_ne, if_pos, if_neg, Int.reduceAdd, Int.reduceSub, Int.reduceMul, Int.reduceNeg, Int.reduceLT, Int.reduceLE, Int.reduceEq, Int.cast_ofNat_Int, eq_self, and_true, true_and, ite_self, true_or, or_true, false_or, or_false, and_false, false_and, not_true_eq_false, not_false_eq_true, if_true, if_false, e_Tokens_wordNext_0, e_Tokens_wordNext_20, e_Tokens_wordNext_24, e_Tokens_wordNext_25, qw, e2, qr]
      exact hp
  · rw [if_neg e1] at qw
    have hp := Cfail (T := T) (n := n) (p := p) (ok := wOk T n p w) (f := 2) (fun h => e1 h.1) a
    simp (disch := first | assumption | omega) only [rn, wk, al, wr_e, td_e, tm_e, mset_eq, mset_ne, if_pos, if_neg, Int.reduceAdd, Int.reduceSub, Int.reduceMul, Int.reduceNeg, Int.reduceLT, Int.reduceLE, Int.reduceEq, Int.cast_ofNat_Int, eq_self, and_true, true_and, ite_self, true_or, or_true, false_or, or_false, and_false, false_and, not_true_eq_false, not_false_eq_true, if_true, if_false, e_Tokens_wordNext_0, e_Tokens_wordNext_20, e_Tokens_wordNext_24, e_Tokens_wordNext_25, qw, qr]
    exact hp
theorem q_nameNext (d : Nat) {T : Int → Int} {n p : Int} (hT : TX T n) {s : Mem} (hs : Cs T n p s) : CV (d + 3) 44 [7] s (CkP T n p s (isNm T n p) 2) := by
  have hn := hT.1
  obtain ⟨t1, t2, -⟩ := tke_b (T := T) hs.1
  have hp0 := hs.1
  apply c_Tokens_nameNext
  simp (disch := first | assumption | omega) only [rn, wk, al, wr_e, td_e, tm_e, mset_eq, mset_ne, if_pos, if_neg, Int.reduceAdd, Int.reduceSub, Int.reduceMul, Int.reduceNeg, Int.reduceLT, Int.reduceLE, Int.reduceEq, Int.cast_ofNat_Int, eq_self, and_true, true_and, ite_self, true_or, or_true, false_or, or_false, and_false, false_and, not_true_eq_false, not_false_eq_true, if_true, if_false, e_Tokens_nameNext_0, e_Tokens_nameNext_38, e_Tokens_nameNext_39, e_Tokens_nameNext_52, e_Tokens_nameNext_56, e_Tokens_nameNext_57]
  refine EV_call (CV_mono (c_adv d hT hs) ?_)
  rintro r t ⟨a, b, c⟩
  have qr := q_Trefuse (d + 1) t 2 b
  have h4 := b.2.2.2.1
  have h3 := b.2.2.1
  have h5 := b.2.1
  by_cases e1 : tkk T n p = 1
  · have h6 := (b.2.2.2.2.1 e1).1
    rw [e1] at h4
    by_cases e2 : wnT T n p = -1
    · by_cases e3 : tke T n p - tkq T n p ≤ 8
      · have hp : CkP T n p s (isNm T n p) 2 1 t := Or.inl ⟨rfl, ⟨e1, e2, e3⟩, a, b, c⟩
        simp (disch := first | assumption | omega) only [rn, wk, al, wr_e, td_e, tm_e, mset_eq, mset_ne, if_pos, if_neg, Int.reduceAdd, Int.reduceSub, Int.reduceMul, Int.reduceNeg, Int.reduceLT, Int.reduceLE, Int.reduceEq, Int.cast_ofNat_Int, eq_self, and_true, true_and, ite_self, true_or, or_true, false_or, or_false, and_false, false_and, not_true_eq_false, not_false_eq_true, if_true, if_false, e_Tokens_nameNext_0, e_Tokens_nameNext_38, e_Tokens_nameNext_39, e_Tokens_nameNext_52, e_Tokens_nameNext_56, e_Tokens_nameNext_57, h4, h6, e2, h3, h5]
        exact hp
      · have hp := Cfail (T := T) (n := n) (p := p) (ok := isNm T n p) (f := 2) (fun h => e3 h.2.2) a
        simp (disch := first | assumption | omega) only [rn, wk, al, wr_e, td_e, tm_e, mset_eq, mset_ne, if_pos, if_neg, Int.reduceAdd, Int.reduceSub, Int.reduceMul, Int.reduceNeg, Int.reduceLT, Int.reduceLE, Int.reduceEq, Int.cast_ofNat_Int, eq_self, and_true, true_and, ite_self, true_or, or_true, false_or, or_false, and_false, false_and, not_true_eq_false, not_false_eq_true, if_true, if_false, e_Tokens_nameNext_0, e_Tokens_nameNext_38, e_Tokens_nameNext_39, e_Tokens_nameNext_52, e_Tokens_nameNext_56, e_Tokens_nameNext_57, h4, h6, e2, h3, h5, qr]
        exact hp
    · have hp := Cfail (T := T) (n := n) (p := p) (ok := isNm T n p) (f := 2) (fun h => e2 h.2.1) a
      simp (disch := first | assumption | omega) only [rn, wk, al, wr_e, td_e, tm_e, mset_eq, mset_ne, if_pos, if_neg, Int.reduceAdd, Int.reduceSub, Int.reduceMul, Int.reduceNeg, Int.reduceLT, Int.reduceLE, Int.reduceEq, Int.cast_ofNat_Int, eq_self, and_true, true_and, ite_self, true_or, or_true, false_or, or_false, and_false, false_and, not_true_eq_false, not_false_eq_true, if_true, if_false, e_Tokens_nameNext_0, e_Tokens_nameNext_38, e_Tokens_nameNext_39, e_Tokens_nameNext_52, e_Tokens_nameNext_56, e_Tokens_nameNext_57, h4, h6, e2, qr]
      exact hp
  · have hp := Cfail (T := T) (n := n) (p := p) (ok := isNm T n p) (f := 2) (fun h => e1 h.1) a
    simp (disch := first | assumption | omega) only [rn, wk, al, wr_e, td_e, tm_e, mset_eq, mset_ne, if_pos, if_neg, Int.reduceAdd, Int.reduceSub, Int.reduceMul, Int.reduceNeg, Int.reduceLT, Int.reduceLE, Int.reduceEq, Int.cast_ofNat_Int, eq_self, and_true, true_and, ite_self, true_or, or_true, false_or, or_false, and_false, false_and, not_true_eq_false, not_false_eq_true, if_true, if_false, e_Tokens_nameNext_0, e_Tokens_nameNext_38, e_Tokens_nameNext_39, e_Tokens_nameNext_52, e_Tokens_nameNext_56, e_Tokens_nameNext_57, h4, qr]
    exact hp
def nF (T : Int → Int) (n p : Int) : Int := if tkk T n p = 2 then 4 else 2
def nOk (T : Int → Int) (n p lo hi : Int) : Prop := tkk T n p = 2 ∧ lo ≤ dvT T n p ∧ dvT T n p ≤ hi
theorem q_numberHere (d : Nat) {T : Int → Int} {n p : Int} {s t : Mem} (a : Fta s t) (b : TkC T n p t) (c : Cs T n (tke T n p) t) (lo hi : Int) : CV (d + 2) 39 [7, lo, hi] t (CkP T n p s (nOk T n p lo hi) (nF T n p)) := by
  have qr := fun f => q_Trefuse d t f b
  have h4 := b.2.2.2.1
  apply c_Tokens_numberHere
  by_cases e1 : tkk T n p = 2
  · have h6 := b.2.2.2.2.2.1 e1
    have ef : nF T n p = 4 := by unfold nF; rw [if_pos e1]
    rw [ef]
    rw [e1] at h4
    by_cases e2 : lo ≤ dvT T n p
    · by_cases e3 : dvT T n p ≤ hi
      · have hp : CkP T n p s (nOk T n p lo hi) 4 1 t := Or.inl ⟨rfl, ⟨e1, e2, e3⟩, a, b, c⟩
        simp (disch := first | assumption | omega) only [rn, wk, al, wr_e, td_e, tm_e, mset_eq, mset_ne, if_pos, if_neg, Int.reduceAdd, Int.reduceSub, Int.reduceMul, Int.reduceNeg, Int.reduceLT, Int.reduceLE, Int.reduceEq, Int.cast_ofNat_Int, eq_self, and_true, true_and, ite_self, true_or, or_true, false_or, or_false, and_false, false_and, not_true_eq_false, not_false_eq_true, if_true, if_false, e_Tokens_numberHere_0, e_Tokens_numberHere_14, e_Tokens_numberHere_30, e_Tokens_numberHere_38, e_Tokens_numberHere_42, e_Tokens_numberHere_43, h4, h6]
        exact hp
      · have hp := Cfail (T := T) (n := n) (p := p) (ok := nOk T n p lo hi) (f := 4) (fun h => e3 h.2.2) a
        simp (disch := first | assumption | omega) only [rn, wk, al, wr_e, td_e, tm_e, mset_eq, mset_ne, if_pos, if_neg, Int.reduceAdd, Int.reduceSub, Int.reduceMul, Int.reduceNeg, Int.reduceLT, Int.reduceLE, Int.reduceEq, Int.cast_ofNat_Int, eq_self, and_true, true_and, ite_self, true_or, or_true, false_or, or_false, and_false, false_and, not_true_eq_false, not_false_eq_true, if_true, if_false, e_Tokens_numberHere_0, e_Tokens_numberHere_14, e_Tokens_numberHere_30, e_Tokens_numberHere_38, e_Tokens_numberHere_42, e_Tokens_numberHere_43, h4, h6, qr]
        exact hp
    · have hp := Cfail (T := T) (n := n) (p := p) (ok := nOk T n p lo hi) (f := 4) (fun h => e2 h.2.1) a
      simp (disch := first | assumption | omega) only [rn, wk, al, wr_e, td_e, tm_e, mset_eq, mset_ne, if_pos, if_neg, Int.reduceAdd, Int.reduceSub, Int.reduceMul, Int.reduceNeg, Int.reduceLT, Int.reduceLE, Int.reduceEq, Int.cast_ofNat_Int, eq_self, and_true, true_and, ite_self, true_or, or_true, false_or, or_false, and_false, false_and, not_true_eq_false, not_false_eq_true, if_true, if_false, e_Tokens_numberHere_0, e_Tokens_numberHere_14, e_Tokens_numberHere_30, e_Tokens_numberHere_38, e_Tokens_numberHere_42, e_Tokens_numberHere_43, h4, h6, qr]
      exact hp
  · have ef : nF T n p = 2 := by unfold nF; rw [if_neg e1]
    rw [ef]
    have hp := Cfail (T := T) (n := n) (p := p) (ok := nOk T n p lo hi) (f := 2) (fun h => e1 h.1) a
    simp (disch := first | assumption | omega) only [rn, wk, al, wr_e, td_e, tm_e, mset_eq, mset_ne, if_pos, if_neg, Int.reduceAdd, Int.reduceSub, Int.reduceMul, Int.reduceNeg, Int.reduceLT, Int.reduceLE, Int.reduceEq, Int.cast_ofNat_Int, eq_self, and_true, true_and, ite_self, true_or, or_true, false_or, or_false, and_false, false_and, not_true_eq_false, not_false_eq_true, if_true, if_false, e_Tokens_numberHere_0, e_Tokens_numberHere_14, e_Tokens_numberHere_30, e_Tokens_numberHere_38, e_Tokens_numberHere_42, e_Tokens_numberHere_43, h4, qr]
    exact hp
theorem CkP01 {T : Int → Int} {n p : Int} {s : Mem} {ok : Prop} {f r : Int} {t : Mem} (h : CkP T n p s ok f r t) : r = 0 ∨ r = 1 := by
  rcases h with ⟨e, -⟩ | ⟨e, -⟩
  · exact Or.inr e
  · exact Or.inl e
theorem RkP01 {T : Int → Int} {n p : Int} {s : Mem} {ok : Prop} {f r : Int} {t : Mem} (h : RkP T n p s ok f r t) : r = 0 ∨ r = 1 := by
  rcases h with ⟨e, -⟩ | ⟨e, -⟩
  · exact Or.inr e
  · exact Or.inl e
theorem q_numberNext (d : Nat) {T : Int → Int} {n p : Int} (hT : TX T n) {s : Mem} (hs : Cs T n p s) (lo hi : Int) : CV (d + 3) 38 [7, lo, hi] s (CkP T n p s (nOk T n p lo hi) (nF T n p)) := by
  apply c_Tokens_numberNext
  simp (disch := first | assumption | omega) only [rn, wk, al, wr_e, td_e, tm_e, mset_eq, mset_ne, if_pos, if_neg, Int.reduceAdd, Int.reduceSub, Int.reduceMul, Int.reduceNeg, Int.reduceLT, Int.reduceLE, Int.reduceEq, Int.cast_ofNat_Int, eq_self, and_true, true_and, ite_self, true_or, or_true, false_or, or_false, and_false, false_and, not_true_eq_false, not_false_eq_true, if_true, if_false, e_Tokens_numberNext_0]
  refine EV_call (CV_mono (c_adv d hT hs) ?_)
  rintro r t ⟨a, b, c⟩
  refine EV_call (CV_mono (q_numberHere d a b c lo hi) ?_)
  intro r2 t2 h2
  have h01 := CkP01 h2
  simp (disch := first | assumption | omega) only [rn, wk, al, wr_e, td_e, tm_e, mset_eq, mset_ne, if_pos, if_neg, Int.reduceAdd, Int.reduceSub, Int.reduceMul, Int.reduceNeg, Int.reduceLT, Int.reduceLE, Int.reduceEq, Int.cast_ofNat_Int, eq_self, and_true, true_and, ite_self, true_or, or_true, false_or, or_false, and_false, false_and, not_true_eq_false, not_false_eq_true, if_true, if_false, e_Tokens_numberNext_0]
  exact h2
def cOk (T : Int → Int) (n p : Int) : Prop := tkk T n p = 3 ∧ T (tkq T n p) = 59
theorem q_closeHere (d : Nat) {T : Int → Int} {n p : Int} {s t : Mem} (a : Fta s t) (b : TkC T n p t) (c : Cs T n (tke T n p) t) : CV (d + 2) 41 [7] t (CkP T n p s (cOk T n p) 2) := by
  have qr := q_Trefuse d t 2 b
  have h4 := b.2.2.2.1
  apply c_Tokens_closeHere
  by_cases e1 : tkk T n p = 3
  · have h6 := b.2.2.2.2.2.2 e1
    rw [e1] at h4
    by_cases e2 : T (tkq T n p) = 59
    · have hp : CkP T n p s (cOk T n p) 2 1 t := Or.inl ⟨rfl, ⟨e1, e2⟩, a, b, c⟩
      simp (disch := first | assumption | omega) only [rn, wk, al, wr_e, td_e, tm_e, mset_eq, mset_ne, if_pos, if_neg, Int.reduceAdd, Int.reduceSub, Int.reduceMul, Int.reduceNeg, Int.reduceLT, Int.reduceLE, Int.reduceEq, Int.cast_ofNat_Int, eq_self, and_true, true_and, ite_self, true_or, or_true, false_or, or_false, and_false, false_and, not_true_eq_false, not_false_eq_true, if_true, if_false, e_Tokens_closeHere_0, e_Tokens_closeHere_17, e_Tokens_closeHere_25, e_Tokens_closeHere_29, e_Tokens_closeHere_30, h4, h6, e2]
      exact hp
    · have hp := Cfail (T := T) (n := n) (p := p) (ok := cOk T n p) (f := 2) (fun h => e2 h.2) a
      simp (disch := first | assumption | omega) only [rn, wk, al, wr_e, td_e, tm_e, mset_eq, mset_ne, if_pos, if_neg, Int.reduceAdd, Int.reduceSub, Int.reduceMul, Int.reduceNeg, Int.reduceLT, Int.reduceLE, Int.reduceEq, Int.cast_ofNat_Int, eq_self, and_true, true_and, ite_self, true_or, or_true, false_or, or_false, and_false, false_and, not_true_eq_false, not_false_eq_true, if_true, if_false, e_Tokens_closeHere_0, e_Tokens_closeHere_17, e_Tokens_closeHere_25, e_Tokens_closeHere_29, e_Tokens_closeHere_30, h4, h6, e2, qr]
      exact hp
  · have hp := Cfail (T := T) (n := n) (p := p) (ok := cOk T n p) (f := 2) (fun h => e1 h.1) a
    simp (disch := first | assumption | omega) only [rn, wk, al, wr_e, td_e, tm_e, mset_eq, mset_ne, if_pos, if_neg, Int.reduceAdd, Int.reduceSub, Int.reduceMul, Int.reduceNeg, Int.reduceLT, Int.reduceLE, Int.reduceEq, Int.cast_ofNat_Int, eq_self, and_true, true_and, ite_self, true_or, or_true, false_or, or_false, and_false, false_and, not_true_eq_false, not_false_eq_true, if_true, if_false, e_Tokens_closeHere_0, e_Tokens_closeHere_17, e_Tokens_closeHere_25, e_Tokens_closeHere_29, e_Tokens_closeHere_30, h4, qr]
    exact hp
theorem q_closeNext (d : Nat) {T : Int → Int} {n p : Int} (hT : TX T n) {s : Mem} (hs : Cs T n p s) : CV (d + 3) 40 [7] s (CkP T n p s (cOk T n p) 2) := by
  apply c_Tokens_closeNext
  simp (disch := first | assumption | omega) only [rn, wk, al, wr_e, td_e, tm_e, mset_eq, mset_ne, if_pos, if_neg, Int.reduceAdd, Int.reduceSub, Int.reduceMul, Int.reduceNeg, Int.reduceLT, Int.reduceLE, Int.reduceEq, Int.cast_ofNat_Int, eq_self, and_true, true_and, ite_self, true_or, or_true, false_or, or_false, and_false, false_and, not_true_eq_false, not_false_eq_true, if_true, if_false, e_Tokens_closeNext_0]
  refine EV_call (CV_mono (c_adv d hT hs) ?_)
  rintro r t ⟨a, b, c⟩
  refine EV_call (CV_mono (q_closeHere d a b c) ?_)
  intro r2 t2 h2
  have h01 := CkP01 h2
  simp (disch := first | assumption | omega) only [rn, wk, al, wr_e, td_e, tm_e, mset_eq, mset_ne, if_pos, if_neg, Int.reduceAdd, Int.reduceSub, Int.reduceMul, Int.reduceNeg, Int.reduceLT, Int.reduceLE, Int.reduceEq, Int.cast_ofNat_Int, eq_self, and_true, true_and, ite_self, true_or, or_true, false_or, or_false, and_false, false_and, not_true_eq_false, not_false_eq_true, if_true, if_false, e_Tokens_closeNext_0]
  exact h2
def gOk (T : Int → Int) (n p : Int) : Prop := tkk T n p = 3 ∧ T (tkq T n p) ≠ 59
theorem q_compareNext (d : Nat) {T : Int → Int} {n p : Int} (hT : TX T n) {s : Mem} (hs : Cs T n p s) : CV (d + 3) 84 [7] s (CkP T n p s (gOk T n p) 2) := by
  apply c_Tokens_compareNext
  simp (disch := first | assumption | omega) only [rn, wk, al, wr_e, td_e, tm_e, mset_eq, mset_ne, if_pos, if_neg, Int.reduceAdd, Int.reduceSub, Int.reduceMul, Int.reduceNeg, Int.reduceLT, Int.reduceLE, Int.reduceEq, Int.cast_ofNat_Int, eq_self, and_true, true_and, ite_self, true_or, or_true, false_or, or_false, and_false, false_and, not_true_eq_false, not_false_eq_true, if_true, if_false, e_Tokens_compareNext_0, e_Tokens_compareNext_21, e_Tokens_compareNext_29, e_Tokens_compareNext_33, e_Tokens_compareNext_34]
  refine EV_call (CV_mono (c_adv d hT hs) ?_)
  rintro r t ⟨a, b, c⟩
  have qr := q_Trefuse (d + 1) t 2 b
  have h4 := b.2.2.2.1
  by_cases e1 : tkk T n p = 3
  · have h6 := b.2.2.2.2.2.2 e1
    rw [e1] at h4
    by_cases e2 : T (tkq T n p) = 59
    · have hp := Cfail (T := T) (n := n) (p := p) (ok := gOk T n p) (f := 2) (fun h => h.2 e2) a
      simp (disch := first | assumption | omega) only [rn, wk, al, wr_e, td_e, tm_e, mset_eq, mset_ne, if_pos, if_neg, Int.reduceAdd, Int.reduceSub, Int.reduceMul, Int.reduceNeg, Int.reduceLT, Int.reduceLE, Int.reduceEq, Int.cast_ofNat_Int, eq_self, and_true, true_and, ite_self, true_or, or_true, false_or, or_false, and_false, false_and, not_true_eq_false, not_false_eq_true, if_true, if_false, e_Tokens_compareNext_0, e_Tokens_compareNext_21, e_Tokens_compareNext_29, e_Tokens_compareNext_33, e_Tokens_compareNext_34, h4, h6, e2, qr]
      exact hp
    · have hp : CkP T n p s (gOk T n p) 2 1 t := Or.inl ⟨rfl, ⟨e1, e2⟩, a, b, c⟩
      simp (disch := first | assumption | omega) only [rn, wk, al, wr_e, td_e, tm_e, mset_eq, mset_ne, if_pos, if_neg, Int.reduceAdd, Int.reduceSub, Int.reduceMul, Int.reduceNeg, Int.reduceLT, Int.reduceLE, Int.reduceEq, Int.cast_ofNat_Int, eq_self, and_true, true_and, ite_self, true_or, or_true, false_or, or_false, and_false, false_and, not_true_eq_false, not_false_eq_true, if_true, if_false, e_Tokens_compareNext_0, e_Tokens_compareNext_21, e_Tokens_compareNext_29, e_Tokens_compareNext_33, e_Tokens_compareNext_34, h4, h6, e2]
      exact hp
  · have hp := Cfail (T := T) (n := n) (p := p) (ok := gOk T n p) (f := 2) (fun h => e1 h.1) a
    simp (disch := first | assumption | omega) only [rn, wk, al, wr_e, td_e, tm_e, mset_eq, mset_ne, if_pos, if_neg, Int.reduceAdd, Int.reduceSub, Int.reduceMul, Int.reduceNeg, Int.reduceLT, Int.reduceLE, Int.reduceEq, Int.cast_ofNat_Int, eq_self, and_true, true_and, ite_self, true_or, or_true, false_or, or_false, and_false, false_and, not_true_eq_false, not_false_eq_true, if_true, if_false, e_Tokens_compareNext_0, e_Tokens_compareNext_21, e_Tokens_compareNext_29, e_Tokens_compareNext_33, e_Tokens_compareNext_34, h4, qr]
    exact hp
/-! the reference -/
theorem r_ahd (d : Nat) {T : Int → Int} {n p : Int} (hT : TX T n) {u : Mem} (hu : Rs_ T n p u) : CV (d + 2) 229 [137] u fun _ w => Fra u w ∧ Rs_ T n (tke T n p) w := by
  obtain ⟨h0, h1, h2, h3⟩ := hu
  obtain ⟨b1, b2, -⟩ := tke_b (T := T) h0
  refine CV_mono (q_ahead d u T n (tke T n p) hT h3 h1.1 h1.2.2.1 (by omega)) ?_
  rintro r w ⟨a, b⟩
  exact ⟨a, by omega, b, ⟨by rw [a _ _ (by omega)]; exact h2.1, by rw [a _ _ (by omega)]; exact h2.2⟩, fun i hi => by rw [a _ _ (by omega)]; exact h3 i hi⟩
theorem r_words (d : Nat) {T : Int → Int} {n p : Int} (hT : TX T n) {u : Mem} (hu : Rs_ T n p u) : sem (d + 2) 235 [137, 0] u = some (if tkk T n p = 1 then pm (wnT T n p) else -1, u) := q_inWords d u T n p hT hu.2.2.2 hu.1 hu.2.1
theorem wnT_b {T : Int → Int} {n p : Int} : -1 ≤ wnT T n p ∧ wnT T n p ≤ 20 := by
  unfold wnT
  split
  · rcases wn_f (nmT T n p) 21 0 (by omega) (by omega) with ⟨a, -⟩ | ⟨a, -⟩ <;> omega
  · omega
theorem pm_b {x : Int} (h : -1 ≤ x ∧ x ≤ 20) : -1 ≤ pm x ∧ pm x ≤ 20 ∧ (pm x = -1 ↔ x = -1) := by
  unfold pm
  by_cases c : 0 ≤ x
  · obtain ⟨-, -, -, -, t5, -⟩ := w_tab ⟨x.toNat, by omega⟩
    simp only at t5
    rw [if_pos c]
    refine ⟨by omega, by omega, by omega⟩
  · rw [if_neg c]; omega
theorem pm_inj {x w : Int} (h : -1 ≤ x ∧ x ≤ 20) (hw : 0 ≤ w ∧ w ≤ 20) : pm x = pm w ↔ x = w := by
  constructor
  · intro e
    have h1 := pm_b h
    have h2 := pm_b (x := w) (by omega)
    by_cases c : 0 ≤ x
    · obtain ⟨-, -, -, t4, -⟩ := w_tab ⟨x.toNat, by omega⟩
      obtain ⟨-, -, -, s4, -⟩ := w_tab ⟨w.toNat, by omega⟩
      simp only at t4 s4
      unfold pm at e
      rw [if_pos c, if_pos hw.1] at e
      rw [e, s4] at t4
      omega
    · have : x = -1 := by omega
      have := h1.2.2.2 this
      have := h2.2.2.1 (by omega)
      omega
  · intro e; rw [e]
theorem r_isName (d : Nat) {T : Int → Int} {n p : Int} (hT : TX T n) {u : Mem} (hu : Rs_ T n p u) : ∃ b, ((b = 1 ∧ isNm T n p) ∨ (b = 0 ∧ ¬ isNm T n p)) ∧ sem (d + 3) 241 [137, 0] u = some (b, u) := by
  have hn := hT.1
  obtain ⟨t1, t2, -⟩ := tke_b (T := T) hu.1
  have hp0 := hu.1
  have qw := r_words d hT hu
  obtain ⟨-, ⟨h11, h13, h14, h12, -⟩, -⟩ := hu
  have pb := pm_b (wnT_b (T := T) (n := n) (p := p))
  by_cases e1 : tkk T n p = 1
  · have e12 : u 137 12 = 2 := by rw [h12, e1]; rfl
    rw [if_pos e1] at qw
    by_cases e3 : tke T n p - tkq T n p ≤ 8
    · by_cases e2 : wnT T n p = -1
      · refine ⟨1, Or.inl ⟨rfl, e1, e2, e3⟩, ?_⟩
        have e4 := pb.2.2.2 e2
        rw [e4] at qw
        apply CV_eq; apply c_R_isName
        simp (disch := first | assumption | omega) only [rn, wk, al, wr_e, td_e, tm_e, mset_eq, mset_ne, if_pos, if_neg, Int.reduceAdd, Int.reduceSub, Int.reduceMul, Int.reduceNeg, Int.reduceLT, Int.reduceLE, Int.reduceEq, Int.cast_ofNat_Int, eq_self, and_true, true_and, ite_self, true_or, or_true, false_or, or_false, and_false, false_and, not_true_eq_false, not_false_eq_true, if_true, if_false, e_R_isName_0, e_R_isName_35, e_R_isName_36, e12, h13, h14, qw]
      · refine ⟨0, Or.inr ⟨rfl, fun h => e2 h.2.1⟩, ?_⟩
        have e4 : pm (wnT T n p) ≠ -1 := fun h => e2 (pb.2.2.1 h)
        apply CV_eq; apply c_R_isName
        simp (disch := first | assumption | omega) only [rn, wk, al, wr_e, td_e, tm_e, mset_eq, mset_ne, if_pos, if_neg, Int.reduceAdd, Int.reduceSub, Int.reduceMul, Int.reduceNeg, Int.reduceLT, Int.reduceLE, Int.reduceEq, Int.cast_ofNat_Int, eq_self, and_true, true_and, ite_self, true_or, or_true, false_or, or_false, and_false, false_and, not_true_eq_false, not_false_eq_true, if_true, if_false, e_R_isName_0, e_R_isName_35, e_R_isName_36, e12, h13, h14, qw, e4]
    · refine ⟨0, Or.inr ⟨rfl, fun h => e3 h.2.2⟩, ?_⟩
      apply CV_eq; apply c_R_isName
      simp (disch := first | assumption | omega) only [rn, wk, al, wr_e, td_e, tm_e, mset_eq, mset_ne, if_pos, if_neg, Int.reduceAdd, Int.reduceSub, Int.reduceMul, Int.reduceNeg, Int.reduceLT, Int.reduceLE, Int.reduceEq, Int.cast_ofNat_Int, eq_self, and_true, true_and, ite_self, true_or, or_true, false_or, or_false, and_false, false_and, not_true_eq_false, not_false_eq_true, if_true, if_false, e_R_isName_0, e_R_isName_35, e_R_isName_36, e12, h13, h14]
  · have e12 : u 137 12 ≠ 2 := by
      rw [h12]; unfold kr
      repeat' split
      all_goals omega
    refine ⟨0, Or.inr ⟨rfl, fun h => e1 h.1⟩, ?_⟩
    apply CV_eq; apply c_R_isName
    simp (disch := first | assumption | omega) only [rn, wk, al, wr_e, td_e, tm_e, mset_eq, mset_ne, if_pos, if_neg, Int.reduceAdd, Int.reduceSub, Int.reduceMul, Int.reduceNeg, Int.reduceLT, Int.reduceLE, Int.reduceEq, Int.cast_ofNat_Int, eq_self, and_true, true_and, ite_self, true_or, or_true, false_or, or_false, and_false, false_and, not_true_eq_false, not_false_eq_true, if_true, if_false, e_R_isName_0, e_R_isName_35, e_R_isName_36, e12]
theorem r_wantWord (d : Nat) {T : Int → Int} {n p : Int} (hT : TX T n) {u : Mem} (hu : Rs_ T n p u) (w k : Int) (hw : 0 ≤ w ∧ w ≤ 20) (hk : k = pm w) : CV (d + 3) 249 [137, 0, k] u (RkP T n p u (wOk T n p w) 2) := by
  have qw := r_words d hT hu
  have qf := q_Rfails (d + 1) u 2 hu
  have pi := pm_inj (wnT_b (T := T) (n := n) (p := p)) hw
  have pb := pm_b (x := w) (by omega)
  rw [← hk] at pi pb
  apply c_R_wantWord
  by_cases e1 : tkk T n p = 1
  · rw [if_pos e1] at qw
    by_cases e2 : wnT T n p = w
    · have e3 := pi.2 e2
      rw [e3] at qw
      simp (disch := first | assumption | omega) only [rn, wk, al, wr_e, td_e, tm_e, mset_eq, mset_ne, if_pos, if_neg, Int.reduceAdd, Int.reduceSub, Int.reduceMul, Int.reduceNeg, Int.reduceLT, Int.reduceLE, Int.reduceEq, Int.cast_ofNat_Int, eq_self, and_true, true_and, ite_self, true_or, or_true, false_or, or_false, and_false, false_and, not_true_eq_false, not_false_eq_true, if_true, if_false, e_R_wantWord_0, e_R_wantWord_15, qw]
      refine EV_call (CV_mono (r_ahd d hT hu) ?_)
      rintro r v ⟨a, b⟩
      have hp : RkP T n p u (wOk T n p w) 2 1 v := Or.inl ⟨rfl, ⟨e1, e2⟩, a, b⟩
      simp (disch := first | assumption | omega) only [rn, wk, al, wr_e, td_e, tm_e, mset_eq, mset_ne, if_pos, if_neg, Int.reduceAdd, Int.reduceSub, Int.reduceMul, Int.reduceNeg, Int.reduceLT, Int.reduceLE, Int.reduceEq, Int.cast_ofNat_Int, eq_self, and_true, true_and, ite_self, true_or, or_true, false_or, or_false, and_false, false_and, not_true_eq_false, not_false_eq_true, if_true, if_false, e_R_wantWord_0, e_R_wantWord_15]
      exact hp
    · have e3 : pm (wnT T n p) ≠ k := fun h => e2 (pi.1 h)
      have hp := Rfail (T := T) (n := n) (p := p) (u := u) (ok := wOk T n p w) (f := 2) (fun h => e2 h.2)
      simp (disch := first | assumption | omega) only [rn, wk, al, wr_e, td_e, tm_e, mset_eq, mset_ne, if_pos, if_neg, Int.reduceAdd, Int.reduceSub, Int.reduceMul, Int.reduceNeg, Int.reduceLT, Int.reduceLE, Int.reduceEq, Int.cast_ofNat_Int, eq_self, and_true, true_and, ite_self, true_or, or_true, false_or, or_false, and_false, false_and, not_true_eq_false, not_false_eq_true, if_true, if_false, e_R_wantWord_0, e_R_wantWord_15, qw, e3, qf]
      exact hp
  · rw [if_neg e1] at qw
    have e3 : (-1 : Int) ≠ k := by omega
    have hp := Rfail (T := T) (n := n) (p := p) (u := u) (ok := wOk T n p w) (f := 2) (fun h => e1 h.1)
    simp (disch := first | assumption | omega) only [rn, wk, al, wr_e, td_e, tm_e, mset_eq, mset_ne, if_pos, if_neg, Int.reduceAdd, Int.reduceSub, Int.reduceMul, Int.reduceNeg, Int.reduceLT, Int.reduceLE, Int.reduceEq, Int.cast_ofNat_Int, eq_self, and_true, true_and, ite_self, true_or, or_true, false_or, or_false, and_false, false_and, not_true_eq_false, not_false_eq_true, if_true, if_false, e_R_wantWord_0, e_R_wantWord_15, qw, qf]
    exact hp
theorem q_isSign (d : Nat) {T : Int → Int} {n p : Int} {u : Mem} (hu : Rs_ T n p u) (c : Int) : ∃ b, ((b = 1 ∧ tkk T n p = 3 ∧ T (tkq T n p) = c) ∨ (b = 0 ∧ ¬ (tkk T n p = 3 ∧ T (tkq T n p) = c))) ∧ sem (d + 1) 259 [137, c] u = some (b, u) := by
  obtain ⟨-, ⟨h11, h13, h14, h12, -, h15⟩, -⟩ := hu
  by_cases e1 : tkk T n p = 3
  · have e12 : u 137 12 = 4 := by rw [h12, e1]; rfl
    have e15 := h15 e1
    by_cases e2 : T (tkq T n p) = c
    · refine ⟨1, Or.inl ⟨rfl, e1, e2⟩, ?_⟩
      rw [e2] at e15
      apply CV_eq; apply c_R_isSign
      simp (disch := first | assumption | omega) only [rn, wk, al, wr_e, td_e, tm_e, mset_eq, mset_ne, if_pos, if_neg, Int.reduceAdd, Int.reduceSub, Int.reduceMul, Int.reduceNeg, Int.reduceLT, Int.reduceLE, Int.reduceEq, Int.cast_ofNat_Int, eq_self, and_true, true_and, ite_self, true_or, or_true, false_or, or_false, and_false, false_and, not_true_eq_false, not_false_eq_true, if_true, if_false, e_R_isSign_0, e_R_isSign_20, e_R_isSign_21, e12, e15]
    · refine ⟨0, Or.inr ⟨rfl, fun h => e2 h.2⟩, ?_⟩
      apply CV_eq; apply c_R_isSign
      simp (disch := first | assumption | omega) only [rn, wk, al, wr_e, td_e, tm_e, mset_eq, mset_ne, if_pos, if_neg, Int.reduceAdd, Int.reduceSub, Int.reduceMul, Int.reduceNeg, Int.reduceLT, Int.reduceLE, Int.reduceEq, Int.cast_ofNat_Int, eq_self, and_true, true_and, ite_self, true_or, or_true, false_or, or_false, and_false, false_and, not_true_eq_false, not_false_eq_true, if_true, if_false, e_R_isSign_0, e_R_isSign_20, e_R_isSign_21, e12, e15, e2]
  · have e12 : u 137 12 ≠ 4 := by
      rw [h12]; unfold kr
      repeat' split
      all_goals omega
    refine ⟨0, Or.inr ⟨rfl, fun h => e1 h.1⟩, ?_⟩
    apply CV_eq; apply c_R_isSign
    simp (disch := first | assumption | omega) only [rn, wk, al, wr_e, td_e, tm_e, mset_eq, mset_ne, if_pos, if_neg, Int.reduceAdd, Int.reduceSub, Int.reduceMul, Int.reduceNeg, Int.reduceLT, Int.reduceLE, Int.reduceEq, Int.cast_ofNat_Int, eq_self, and_true, true_and, ite_self, true_or, or_true, false_or, or_false, and_false, false_and, not_true_eq_false, not_false_eq_true, if_true, if_false, e_R_isSign_0, e_R_isSign_20, e_R_isSign_21, e12]
theorem r_wantSign (d : Nat) {T : Int → Int} {n p : Int} (hT : TX T n) {u : Mem} (hu : Rs_ T n p u) : CV (d + 3) 258 [137, 59] u (RkP T n p u (cOk T n p) 2) := by
  have qf := q_Rfails (d + 1) u 2 hu
  obtain ⟨b, hb, qs⟩ := q_isSign (d + 1) hu 59
  apply c_R_wantSign
  rcases hb with ⟨e, hb⟩ | ⟨e, hb⟩
  · subst e
    simp (disch := first | assumption | omega) only [rn, wk, al, wr_e, td_e, tm_e, mset_eq, mset_ne, if_pos, if_neg, Int.reduceAdd, Int.reduceSub, Int.reduceMul, Int.reduceNeg, Int.reduceLT, Int.reduceLE, Int.reduceEq, Int.cast_ofNat_Int, eq_self, and_true, true_and, ite_self, true_or, or_true, false_or, or_false, and_false, false_and, not_true_eq_false, not_false_eq_true, if_true, if_false, e_R_wantSign_0, e_R_wantSign_14, qs]
    refine EV_call (CV_mono (r_ahd d hT hu) ?_)
    rintro r v ⟨a, b⟩
    have hp : RkP T n p u (cOk T n p) 2 1 v := Or.inl ⟨rfl, hb, a, b⟩
    simp (disch := first | assumption | omega) only [rn, wk, al, wr_e, td_e, tm_e, mset_eq, mset_ne, if_pos, if_neg, Int.reduceAdd, Int.reduceSub, Int.reduceMul, Int.reduceNeg, Int.reduceLT, Int.reduceLE, Int.reduceEq, Int.cast_ofNat_Int, eq_self, and_true, true_and, ite_self, true_or, or_true, false_or, or_false, and_false, false_and, not_true_eq_false, not_false_eq_true, if_true, if_false, e_R_wantSign_0, e_R_wantSign_14]
    exact hp
  · subst e
    have hp := Rfail (T := T) (n := n) (p := p) (u := u) (ok := cOk T n p) (f := 2) hb
    simp (disch := first | assumption | omega) only [rn, wk, al, wr_e, td_e, tm_e, mset_eq, mset_ne, if_pos, if_neg, Int.reduceAdd, Int.reduceSub, Int.reduceMul, Int.reduceNeg, Int.reduceLT, Int.reduceLE, Int.reduceEq, Int.cast_ofNat_Int, eq_self, and_true, true_and, ite_self, true_or, or_true, false_or, or_false, and_false, false_and, not_true_eq_false, not_false_eq_true, if_true, if_false, e_R_wantSign_0, e_R_wantSign_14, qs, qf]
    exact hp
/-- a number is taken to a place of the slot -/
def NkP (T : Int → Int) (n p : Int) (u : Mem) (to lo hi : Int) (r : Int) (w : Mem) : Prop := (r = 1 ∧ nOk T n p lo hi ∧ (∀ c i, ¬ (c = 137 ∧ 12 ≤ i ∧ i ≤ 15) → ¬ (c = 138 ∧ i = to) → w c i = u c i) ∧ w 138 to = dvT T n p ∧ Rs_ T n (tke T n p) w) ∨ (r = 0 ∧ ¬ nOk T n p lo hi ∧ Frf u w ∧ w 137 18 = flt T n p (nF T n p) ∧ w 137 17 = tkq T n p)
theorem r_number (d : Nat) {T : Int → Int} {n p : Int} (hT : TX T n) {u : Mem} (hu : Rs_ T n p u) (to lo hi : Int) (hto : 0 ≤ to ∧ to < 5208) : CV (d + 3) 237 [137, to, lo, hi] u (NkP T n p u to lo hi) := by
  have qf := fun f => q_Rfails (d + 1) u f hu
  have hu' := hu
  obtain ⟨-, ⟨h11, h13, h14, h12, h15, -⟩, -⟩ := hu'
  have fl : ∀ f, ¬ nOk T n p lo hi → f = nF T n p → NkP T n p u to lo hi 0 (mset (mset u 137 18 (flt T n p f)) 137 17 (tkq T n p)) := fun f hn hf => Or.inr ⟨rfl, hn, fun c i hc => by rw [mset_ne (by omega), mset_ne (by omega)], by rw [mset_ne (by omega), mset_eq rfl rfl, hf], mset_eq rfl rfl⟩
  apply c_R_number
  by_cases e1 : tkk T n p = 2
  · have e12 : u 137 12 = 3 := by rw [h12, e1]; rfl
    have e15 := h15 e1
    have ef : (4 : Int) = nF T n p := by unfold nF; rw [if_pos e1]
    by_cases e2 : lo ≤ dvT T n p
    · by_cases e3 : dvT T n p ≤ hi
      · obtain ⟨v, hv⟩ : ∃ v, v = mset u 138 to (dvT T n p) := ⟨_, rfl⟩
        have vf : ∀ c i, ¬ (c = 138 ∧ i = to) → v c i = u c i := fun c i hc => by rw [hv, mset_ne (by omega)]
        have hv2 : Rs_ T n p v := by
          obtain ⟨g0, g1, g2, g3⟩ := hu
          refine ⟨g0, ?_, ⟨by rw [vf _ _ (by omega)]; exact g2.1, by rw [vf _ _ (by omega)]; exact g2.2⟩, fun i hi => by rw [vf _ _ (by omega)]; exact g3 i hi⟩
          unfold TkR
          simp (disch := omega) only [vf]
          exact g1
        simp (disch := first | assumption | omega) only [rn, wk, al, wr_e, td_e, tm_e, mset_eq, mset_ne, if_pos, if_neg, Int.reduceAdd, Int.reduceSub, Int.reduceMul, Int.reduceNeg, Int.reduceLT, Int.reduceLE, Int.reduceEq, Int.cast_ofNat_Int, eq_self, and_true, true_and, ite_self, true_or, or_true, false_or, or_false, and_false, false_and, not_true_eq_false, not_false_eq_true, if_true, if_false, e_R_number_0, e_R_number_14, e_R_number_30, e_R_number_36, e12, e15, ← hv]
        refine EV_call (CV_mono (r_ahd d hT hv2) ?_)
        rintro r w ⟨a, b⟩
        have hp : NkP T n p u to lo hi 1 w := Or.inl ⟨rfl, ⟨e1, e2, e3⟩, fun c i h1 h2 => by rw [a c i h1]; exact vf c i h2, by rw [a _ _ (by omega), hv, mset_eq rfl rfl], b⟩
        simp (disch := first | assumption | omega) only [rn, wk, al, wr_e, td_e, tm_e, mset_eq, mset_ne, if_pos, if_neg, Int.reduceAdd, Int.reduceSub, Int.reduceMul, Int.reduceNeg, Int.reduceLT, Int.reduceLE, Int.reduceEq, Int.cast_ofNat_Int, eq_self, and_true, true_and, ite_self, true_or, or_true, false_or, or_false, and_false, false_and, not_true_eq_false, not_false_eq_true, if_true, if_false, e_R_number_0, e_R_number_14, e_R_number_30, e_R_number_36]
        exact hp
      · have hp := fl 4 (fun h => e3 h.2.2) ef
        simp (disch := first | assumption | omega) only [rn, wk, al, wr_e, td_e, tm_e, mset_eq, mset_ne, if_pos, if_neg, Int.reduceAdd, Int.reduceSub, Int.reduceMul, Int.reduceNeg, Int.reduceLT, Int.reduceLE, Int.reduceEq, Int.cast_ofNat_Int, eq_self, and_true, true_and, ite_self, true_or, or_true, false_or, or_false, and_false, false_and, not_true_eq_false, not_false_eq_true, if_true, if_false, e_R_number_0, e_R_number_14, e_R_number_30, e_R_number_36, e12, e15, qf]
        exact hp
    · have hp := fl 4 (fun h => e2 h.2.1) ef
      simp (disch := first | assumption | omega) only [rn, wk, al, wr_e, td_e, tm_e, mset_eq, mset_ne, if_pos, if_neg, Int.reduceAdd, Int.reduceSub, Int.reduceMul, Int.reduceNeg, Int.reduceLT, Int.reduceLE, Int.reduceEq, Int.cast_ofNat_Int, eq_self, and_true, true_and, ite_self, true_or, or_true, false_or, or_false, and_false, false_and, not_true_eq_false, not_false_eq_true, if_true, if_false, e_R_number_0, e_R_number_14, e_R_number_30, e_R_number_36, e12, e15, qf]
      exact hp
  · have e12 : u 137 12 ≠ 3 := by
      rw [h12]; unfold kr
      repeat' split
      all_goals omega
    have hp := fl 2 (fun h => e1 h.1) (by unfold nF; rw [if_neg e1])
    simp (disch := first | assumption | omega) only [rn, wk, al, wr_e, td_e, tm_e, mset_eq, mset_ne, if_pos, if_neg, Int.reduceAdd, Int.reduceSub, Int.reduceMul, Int.reduceNeg, Int.reduceLT, Int.reduceLE, Int.reduceEq, Int.cast_ofNat_Int, eq_self, and_true, true_and, ite_self, true_or, or_true, false_or, or_false, and_false, false_and, not_true_eq_false, not_false_eq_true, if_true, if_false, e_R_number_0, e_R_number_14, e_R_number_30, e_R_number_36, e12, qf]
    exact hp
