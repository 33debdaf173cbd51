/-! ===== H2: the fewest slips, as both find them ===== -/
def sum2 (F : Int → Int → Int) : Int := sg (fun x => sg (fun b => F x b) 0 91) 0 4
theorem sum2_add (F G : Int → Int → Int) : sum2 (fun x b => F x b + G x b) = sum2 F + sum2 G := by
  unfold sum2
  rw [← sg_add]
  exact sg_congr _ _ (fun x _ _ => sg_add 91 0)
theorem sum2_sub (F G : Int → Int → Int) : sum2 (fun x b => F x b - G x b) = sum2 F - sum2 G := by
  unfold sum2
  rw [← sg_sub]
  exact sg_congr _ _ (fun x _ _ => sg_sub 91 0)
theorem sum2_nn (F : Int → Int → Int) (h : ∀ x b, 0 ≤ x ∧ x < 4 → 0 ≤ b ∧ b < 91 → 0 ≤ F x b) : 0 ≤ sum2 F := by
  unfold sum2
  refine (sg_nn 4 0 (fun x a b => ?_)).1
  exact (sg_nn 91 0 (fun y c e => h x y (by omega) (by omega))).1
theorem sum2_congr {F G : Int → Int → Int} (h : ∀ x b, 0 ≤ x ∧ x < 4 → 0 ≤ b ∧ b < 91 → F x b = G x b) : sum2 F = sum2 G := by
  unfold sum2
  exact sg_congr 4 0 (fun x a b => sg_congr 91 0 (fun y c e => h x y (by omega) (by omega)))
theorem nzz_sum (f : Int → Int → Int) : nzz f = sum2 (fun x b => z1 (f x b)) := rfl
theorem nzz_congr {F G : Int → Int → Int} (h : ∀ x b, 0 ≤ x ∧ x < 4 → 0 ≤ b ∧ b < 91 → F x b = G x b) : nzz F = nzz G := by
  rw [nzz_sum, nzz_sum]; exact sum2_congr (fun x b a c => by rw [h x b a c])
theorem nzz_b (f : Int → Int → Int) : 0 ≤ nzz f ∧ nzz f ≤ 364 := by
  have := sg_bd (f := fun x => sg (fun b => z1 (f x b)) 0 91) (m := 91) 4 0 (fun x _ _ => by
    have := sg_bd (f := fun b => z1 (f x b)) (m := 1) 91 0 (fun b _ _ => z1_b _)
    exact ⟨this.1, by have := this.2; omega⟩)
  unfold nzz; exact ⟨this.1, by have := this.2; omega⟩
theorem pX_ok {A : Mem} (hv : VB A) {v x b : Int} (hk : vK A v) (hx : 0 ≤ x) : 0 ≤ pX A v x b ∧ pX A v x b ≤ 99 := by
  unfold pX
  by_cases c : x < A 0 3
  · rw [if_pos c]; exact pt_ok hv hk ⟨hx, c⟩
  · rw [if_neg c]; omega
def bq (A : Mem) (q : Int) : Int := if 0 ≤ q ∧ q < 15 ∧ q / 3 < A 0 4 ∧ q % 3 < A 7 (q / 3) then sg (brx A q) 0 (A 0 3).toNat else 0
theorem bq_v {A : Mem} {q : Int} (h : vQ A q) : bq A q = sg (brx A q) 0 (A 0 3).toNat := if_pos h
theorem bq_n {A : Mem} {q : Int} (h : ¬ vQ A q) : bq A q = 0 := if_neg h
theorem bq_p {A : Mem} {q : Int} (h : 0 < bq A q) : vQ A q := by
  by_cases c : vQ A q
  · exact c
  · rw [bq_n c] at h; omega
theorem bq_b {A : Mem} (hv : VB A) (q : Int) : 0 ≤ bq A q ∧ bq A q ≤ 12 := by
  have h1 := hv.1
  unfold VC at h1
  by_cases c : vQ A q
  · rw [bq_v c]
    have := sg_bd (f := brx A q) (m := 3) (A 0 3).toNat 0 (fun x _ _ => brx_b A q x)
    omega
  · rw [bq_n c]; omega
/-- the kind is heard on as many places -/
theorem bq_c {A : Mem} (hv : VB A) {v : Int} (hk : vK A v) : sum2 (fun x b => p1_ (pX A v x b)) = bq A (v / 21) := by
  have h1 := hv.1
  unfold VC at h1
  have hk0 := hk.1
  have h63 : v / 21 / 3 = v / 63 := by omega
  rw [bq_v hk.2.2]
  unfold sum2
  obtain ⟨N, hN⟩ : ∃ N : Nat, (N : Int) = A 0 3 := ⟨(A 0 3).toNat, by omega⟩
  rw [show (A 0 3).toNat = N by omega, show (4 : Nat) = N + (4 - N) by omega, sg_plus, sg_zero (4 - N) (0 + (N : Int)) _ (fun x a b => by
    show sg (fun b => p1_ (pX A v x b)) 0 91 = 0
    apply sg_zero
    intro b _ _
    show p1_ (pX A v x b) = 0
    unfold pX; rw [if_neg (by omega)]; rfl), Int.add_zero]
  apply sg_congr
  intro x a b
  have hx : 0 ≤ x ∧ x < A 0 3 := by omega
  have e := pt_h hv hk hx (fun _ a => p1_ a) (fun _ => rfl)
  show sg (fun b => p1_ (pX A v x b)) 0 91 = brx A (v / 21) x
  unfold pX
  simp only [if_pos hx.2]
  rw [e]
  by_cases c : dP A (v / 63) (A 5 x) < 10000000
  · rw [if_pos c]; unfold s3 brx; simp
  · rw [if_neg c]
    have ez : ∀ i, aP A (v / 21) (A 5 x) i = 0 := fun i => by unfold aP; rw [h63, if_neg c]
    unfold brx; rw [ez, ez, ez]; rfl
def n0 (A : Mem) : Int := nzz (fun x b => A 10 (4 * b + x))
def n1 (A : Mem) (a : Int) : Int := nzz (fun x b => A 10 (4 * b + x) - pX A a x b)
def n2 (A : Mem) (a c : Int) : Int := nzz (fun x b => A 10 (4 * b + x) - pX A a x b - pX A c x b)
theorem z1_cell {l p q : Int} (hp : 0 ≤ p) (hq : 0 ≤ q) : 0 ≤ z1 (l - p - q) - z1 (l - p) - z1 (l - q) + z1 l + p1_ p ∧ 0 ≤ z1 (l - p - q) - z1 (l - p) - z1 (l - q) + z1 l + p1_ q := by
  unfold z1 p1_
  repeat' split
  all_goals omega
theorem n2_ge {A : Mem} (hv : VB A) {a c : Int} (ha : vK A a) (hc : vK A c) : n1 A a + n1 A c - n0 A - bq A (a / 21) ≤ n2 A a c ∧ n1 A a + n1 A c - n0 A - bq A (c / 21) ≤ n2 A a c := by
  have e1 : sum2 (fun x b => z1 (A 10 (4 * b + x) - pX A a x b - pX A c x b) - z1 (A 10 (4 * b + x) - pX A a x b) - z1 (A 10 (4 * b + x) - pX A c x b) + z1 (A 10 (4 * b + x)) + p1_ (pX A a x b)) = n2 A a c - n1 A a - n1 A c + n0 A + bq A (a / 21) := by
    rw [← bq_c hv ha]
    unfold n2 n1 n0
    simp only [nzz_sum]
    rw [← sum2_sub, ← sum2_sub, ← sum2_add, ← sum2_add]
  have e2 : sum2 (fun x b => z1 (A 10 (4 * b + x) - pX A a x b - pX A c x b) - z1 (A 10 (4 * b + x) - pX A a x b) - z1 (A 10 (4 * b + x) - pX A c x b) + z1 (A 10 (4 * b + x)) + p1_ (pX A c x b)) = n2 A a c - n1 A a - n1 A c + n0 A + bq A (c / 21) := by
    rw [← bq_c hv hc]
    unfold n2 n1 n0
    simp only [nzz_sum]
    rw [← sum2_sub, ← sum2_sub, ← sum2_add, ← sum2_add]
  have p1 := sum2_nn _ (fun x b hx hb => (z1_cell (l := A 10 (4 * b + x)) (pX_ok hv ha (x := x) (b := b) hx.1).1 (pX_ok hv hc (x := x) (b := b) hx.1).1).1)
  have p2 := sum2_nn _ (fun x b hx hb => (z1_cell (l := A 10 (4 * b + x)) (pX_ok hv ha (x := x) (b := b) hx.1).1 (pX_ok hv hc (x := x) (b := b) hx.1).1).2)
  rw [e1] at p1
  rw [e2] at p2
  omega
abbrev Bst := Int × Int × Int × Int
def sUp (st : Bst) (v c o t : Int) : Bst := if v < st.1 then (v, c, o, t) else st
def sF2 (A : Mem) (a : Int) : Nat → Int → Bst → Bst
  | 0, _, st => st
  | n + 1, b, st => sF2 A a n (b + 1) (if 0 < bq A (b / 21) then sUp st (n2 A a b) 2 a b else st)
def sF1 (A : Mem) (m : Int) : Nat → Int → Bst → Bst
  | 0, _, st => st
  | n + 1, a, st => sF1 A m n (a + 1) (if 0 < bq A (a / 21) then (if 1 < m then sF2 A a n (a + 1) (sUp st (n1 A a) 1 a (-1)) else sUp st (n1 A a) 1 a (-1)) else st)
theorem sUp_n {st : Bst} {v c o t : Int} (h : st.1 ≤ v) : sUp st v c o t = st := if_neg (by omega)
theorem sUp_y {st : Bst} {v c o t : Int} (h : v < st.1) : sUp st v c o t = (v, c, o, t) := if_pos h
theorem sF2_n (A : Mem) (a : Int) : ∀ (n : Nat) (b : Int) (st : Bst), (∀ c, b ≤ c ∧ c < b + n → 0 < bq A (c / 21) → st.1 ≤ n2 A a c) → sF2 A a n b st = st := by
  intro n
  induction n with
  | zero => intro b st _; rfl
  | succ n ih =>
    intro b st h
    have e : (if 0 < bq A (b / 21) then sUp st (n2 A a b) 2 a b else st) = st := by
      by_cases c : 0 < bq A (b / 21)
      · rw [if_pos c, sUp_n (h b (by omega) c)]
      · rw [if_neg c]
    show sF2 A a n (b + 1) (if 0 < bq A (b / 21) then sUp st (n2 A a b) 2 a b else st) = st
    rw [e]
    exact ih (b + 1) st (fun c hc => h c (by omega))
/-- how the class holds what was best -/
def cR (st : Bst) (t : Mem) : Prop := t 14 0 = st.1 ∧ t 14 3 = st.2.1 ∧ (1 ≤ st.2.1 → t 15 0 = st.2.2.1) ∧ (2 ≤ st.2.1 → t 15 1 = st.2.2.2)
/-- what the search for slips has of the hall; a: the call that is taken away, or none -/
def SJ (A t : Mem) (L : Int → Int → Int) : Prop := PG A t ∧ (∀ q, 0 ≤ q ∧ q < 15 → t 22 q = bq A q) ∧ (∀ x b, 0 ≤ x ∧ x < 4 → 0 ≤ b ∧ b < 91 → t 18 (4 * b + x) = L x b) ∧ (-700000 ≤ t 14 7 ∧ t 14 7 ≤ 700000)
/-- the changes that were weighed -/
def SC (A t : Mem) : Prop := ∀ v, 0 ≤ v ∧ v < 315 → 0 < bq A (v / 21) → t 23 v = n1 A v - n0 A
def Fsk (s t : Mem) : Prop := ∀ c i, c ≠ 15 → ¬ (c = 14 ∧ (i = 0 ∨ i = 3)) → t c i = s c i
theorem PG_congr {A s t : Mem} (h : ∀ c i, 19 ≤ c ∧ c ≤ 21 → t c i = s c i) (hP : PG A s) : PG A t := by
  intro q x hq hx
  have := hP q x hq hx
  unfold gd gl1 at this ⊢
  simp only [h 19 _ (by omega), h 20 _ (by omega), h 21 _ (by omega)]
  exact this
theorem SJ_congr {A s t : Mem} {L : Int → Int → Int} (h : Fsk s t) (hS : SJ A s L) : SJ A t L := by
  obtain ⟨a, b, c, e⟩ := hS
  refine ⟨PG_congr (fun c' i hc => h _ _ (by omega) (by omega)) a, fun q hq => by rw [h _ _ (by omega) (by omega)]; exact b q hq, fun x y hx hy => by rw [h _ _ (by omega) (by omega)]; exact c x y hx hy, by rw [h _ _ (by omega) (by omega)]; exact e⟩
theorem lp_sc2 (d : Nat) (A s : Mem) (hv : VB A) (a : Int) (ha : vK A a) (hba : 0 < bq A (a / 21)) (hS : SJ A s (fun x b => A 10 (4 * b + x) - pX A a x b)) (hC : SC A s) (Q : Int → Mem → Prop) (E : Bst) (hQ : ∀ t z1 z2, Fsk s t → cR E t → EV (d + 2) o_Guess_findSecond 139 [] [14, a, n0 A, a / 21, n1 A a, 315, z1, z2] t Q) : ∀ (n : Nat) (b : Int) (st : Bst) (t : Mem) (z1 z2 : Int), 0 ≤ b → b + n = 315 → (0 ≤ st.1 ∧ st.1 ≤ 400) → Fsk s t → cR st t → sF2 A a n b st = E → EV (d + 2) o_Guess_findSecond 30 [] [14, a, n0 A, a / 21, n1 A a, b, z1, z2] t Q := by
  have ha0 := ha.1
  have ha1 := ha.2.1
  have ba := bq_b hv (a / 21)
  have na := nzz_b (fun x b => A 10 (4 * b + x) - pX A a x b)
  have na0 := nzz_b (fun x b => A 10 (4 * b + x))
  have na' : 0 ≤ n1 A a ∧ n1 A a ≤ 364 := na
  have na0' : 0 ≤ n0 A ∧ n0 A ≤ 364 := na0
  intro n
  induction n with
  | zero =>
    intro b st t z1 z2 h0 hb hs hf hc he
    have eb : b = 315 := by omega
    subst eb
    have hq := hQ t z1 z2 hf (by rw [← he]; exact hc)
    rw [e_Guess_findSecond_30]
    simp (disch := first | assumption | omega) only [rn, wk, al, wr_e, td_e, tm_e, mset_eq, mset_ne, if_pos, if_neg, Int.reduceAdd, Int.reduceSub, Int.reduceMul, Int.reduceNeg, Int.reduceLT, Int.reduceLE, Int.reduceEq, Int.cast_ofNat_Int, eq_self, and_true, true_and, ite_self, true_or, or_true, false_or, or_false, and_false, false_and, not_true_eq_false, not_false_eq_true, if_true, if_false]
    exact hq
  | succ n ih =>
    intro b st t z1 z2 h0 hb hs hf hc he
    obtain ⟨j1, j2, j3, j4⟩ := SJ_congr hf hS
    have bb := bq_b hv (b / 21)
    have eA := j2 (a / 21) (by omega)
    have eB := j2 (b / 21) (by omega)
    have nb : 0 ≤ n1 A b ∧ n1 A b ≤ 364 := nzz_b _
    have n2b : 0 ≤ n2 A a b ∧ n2 A a b ≤ 364 := nzz_b _
    have he' : sF2 A a n (b + 1) (if 0 < bq A (b / 21) then sUp st (n2 A a b) 2 a b else st) = E := he
    obtain ⟨ov, hov, o1, o2, o3⟩ : ∃ ov, min (bq A (a / 21)) (bq A (b / 21)) = ov ∧ ov ≤ bq A (a / 21) ∧ ov ≤ bq A (b / 21) ∧ (ov = bq A (a / 21) ∨ ov = bq A (b / 21)) := ⟨_, rfl, by omega, by omega, by omega⟩
    have m14 := hc.1
    rw [e_Guess_findSecond_30]
    by_cases cb : 0 < bq A (b / 21)
    · have hvb : vK A b := ⟨by omega, by omega, bq_p cb⟩
      have hge := n2_ge hv ha hvb
      have ec : t 23 b = n1 A b - n0 A := by rw [hf _ _ (by omega) (by omega)]; exact hC b (by omega) cb
      rw [if_pos cb] at he'
      by_cases cm : n1 A a + (n1 A b - n0 A) - ov < st.1
      · have hcb := q_changeBy d A t hv j1 b hvb
        have e18 : nzz (fun x b_1 => t 18 (4 * b_1 + x) - pX A b x b_1) = n2 A a b := nzz_congr (fun x y hx hy => by rw [j3 x y hx hy])
        have e18' : nzz (fun x b_1 => t 18 (4 * b_1 + x)) = n1 A a := nzz_congr (fun x y hx hy => by rw [j3 x y hx hy])
        rw [e18, e18'] at hcb
        have e2 : n1 A a + (n2 A a b - n1 A a) = n2 A a b := by omega
        by_cases cu : n2 A a b < st.1
        · rw [sUp_y cu] at he'
          have hx2 := ih (b + 1) (n2 A a b, 2, a, b) (mset (mset (mset (mset t 14 0 (n2 A a b)) 14 3 2) 15 0 a) 15 1 b) ov (n2 A a b) (by omega) (by omega) (by show 0 ≤ n2 A a b ∧ n2 A a b ≤ 400; omega) (fun c i y1 y2 => by rw [mset_ne (by omega), mset_ne (by omega), mset_ne (by omega), mset_ne (by omega)]; exact hf c i y1 y2) ⟨by rw [mset_ne (by omega), mset_ne (by omega), mset_ne (by omega), mset_eq rfl rfl], by rw [mset_ne (by omega), mset_ne (by omega), mset_eq rfl rfl], fun _ => by rw [mset_ne (by omega), mset_eq rfl rfl], fun _ => by rw [mset_eq rfl rfl]⟩ he'
          simp (disch := first | assumption | omega) only [rn, wk, al, wr_e, td_e, tm_e, mset_eq, mset_ne, if_pos, if_neg, Int.reduceAdd, Int.reduceSub, Int.reduceMul, Int.reduceNeg, Int.reduceLT, Int.reduceLE, Int.reduceEq, Int.cast_ofNat_Int, eq_self, and_true, true_and, ite_self, true_or, or_true, false_or, or_false, and_false, false_and, not_true_eq_false, not_false_eq_true, if_true, if_false, e_Guess_findSecond_0, e_Guess_findSecond_87, e_Guess_findSecond_133, eA, eB, hov, ec, m14, hcb, e2]
          exact hx2
        · rw [sUp_n (by omega)] at he'
          have hx2 := ih (b + 1) st t ov (n2 A a b) (by omega) (by omega) hs hf hc he'
          simp (disch := first | assumption | omega) only [rn, wk, al, wr_e, td_e, tm_e, mset_eq, mset_ne, if_pos, if_neg, Int.reduceAdd, Int.reduceSub, Int.reduceMul, Int.reduceNeg, Int.reduceLT, Int.reduceLE, Int.reduceEq, Int.cast_ofNat_Int, eq_self, and_true, true_and, ite_self, true_or, or_true, false_or, or_false, and_false, false_and, not_true_eq_false, not_false_eq_true, if_true, if_false, e_Guess_findSecond_0, e_Guess_findSecond_87, e_Guess_findSecond_133, eA, eB, hov, ec, m14, hcb, e2]
          exact hx2
      · rw [sUp_n (by omega)] at he'
        have hx2 := ih (b + 1) st t ov z2 (by omega) (by omega) hs hf hc he'
        simp (disch := first | assumption | omega) only [rn, wk, al, wr_e, td_e, tm_e, mset_eq, mset_ne, if_pos, if_neg, Int.reduceAdd, Int.reduceSub, Int.reduceMul, Int.reduceNeg, Int.reduceLT, Int.reduceLE, Int.reduceEq, Int.cast_ofNat_Int, eq_self, and_true, true_and, ite_self, true_or, or_true, false_or, or_false, and_false, false_and, not_true_eq_false, not_false_eq_true, if_true, if_false, e_Guess_findSecond_0, e_Guess_findSecond_87, e_Guess_findSecond_133, eA, eB, hov, ec, m14]
        exact hx2
    · rw [if_neg cb] at he'
      have eo : ov = 0 := by omega
      rw [eo] at hov
      have hx2 := ih (b + 1) st t 0 z2 (by omega) (by omega) hs hf hc he'
      simp (disch := first | assumption | omega) only [rn, wk, al, wr_e, td_e, tm_e, mset_eq, mset_ne, if_pos, if_neg, Int.reduceAdd, Int.reduceSub, Int.reduceMul, Int.reduceNeg, Int.reduceLT, Int.reduceLE, Int.reduceEq, Int.cast_ofNat_Int, eq_self, and_true, true_and, ite_self, true_or, or_true, false_or, or_false, and_false, false_and, not_true_eq_false, not_false_eq_true, if_true, if_false, e_Guess_findSecond_0, e_Guess_findSecond_87, e_Guess_findSecond_133, eA, eB, hov]
      exact hx2
def Fs2 (s t : Mem) : Prop := ∀ c i, c ≠ 15 → c ≠ 18 → ¬ (c = 14 ∧ (i = 0 ∨ i = 3 ∨ i = 7)) → t c i = s c i
theorem q_findSecond (d : Nat) (A s : Mem) (hv : VB A) (hr : ∀ j, 0 ≤ j ∧ j < 364 → 0 ≤ A 10 j ∧ A 10 j ≤ 999) (a : Int) (ha : vK A a) (hba : 0 < bq A (a / 21)) (hS : SJ A s (fun x b => A 10 (4 * b + x))) (h7 : s 14 7 = sg (A 10) 0 364) (hC : SC A s) (st : Bst) (hst : 0 ≤ st.1 ∧ st.1 ≤ 400) (hc : cR st s) : CV (d + 3) 159 [14, a, n0 A] s fun _ t => Fs2 s t ∧ SJ A t (fun x b => A 10 (4 * b + x)) ∧ t 14 7 = sg (A 10) 0 364 ∧ cR (sF2 A a (314 - a).toNat (a + 1) st) t := by
  have h1 := hv.1
  unfold VC at h1
  have ha0 := ha.1
  have ha1 := ha.2.1
  obtain ⟨j1, j2, j3, j4⟩ := hS
  have hsum := sg_bd (f := A 10) (m := 999) 364 0 (fun i a b => hr i (by omega))
  have haS := sg_bd (f := fun x => aS A (a / 21) (A 5 x)) (m := 297) (A 0 3).toNat 0 (fun i p b => aS_ok hv ha.2.2 (hv.2.1 i (by omega)))
  have na' : 0 ≤ n1 A a ∧ n1 A a ≤ 364 := nzz_b _
  have na0' : 0 ≤ n0 A ∧ n0 A ≤ 364 := nzz_b _
  have e21 : 21 * (a / 21) + a % 21 = a := by omega
  have cell : ∀ j, 0 ≤ j ∧ j < 364 → s 18 j = A 10 j := fun j hj => by
    have : s 18 (4 * (j / 4) + j % 4) = A 10 (4 * (j / 4) + j % 4) := j3 (j % 4) (j / 4) (by omega) (by omega)
    rw [show 4 * (j / 4) + j % 4 = j by omega] at this
    exact this
  have hec := hC a (by omega) hba
  apply c_Guess_findSecond
  simp (disch := first | assumption | omega) only [rn, wk, al, wr_e, td_e, tm_e, mset_eq, mset_ne, if_pos, if_neg, Int.reduceAdd, Int.reduceSub, Int.reduceMul, Int.reduceNeg, Int.reduceLT, Int.reduceLE, Int.reduceEq, Int.cast_ofNat_Int, eq_self, and_true, true_and, ite_self, true_or, or_true, false_or, or_false, and_false, false_and, not_true_eq_false, not_false_eq_true, if_true, if_false, e_Guess_findSecond_0, e_Guess_findSecond_87, e_Guess_findSecond_133, e_Guess_findSecond_139]
  refine EV_call (CV_mono (q_take (d + 0) A s hv j1 (a / 21) (a % 21) 1 ha.2.2 (by omega) (Or.inl rfl) (fun j hj => by rw [cell j hj]; have := hr j hj; omega) (by omega)) ?_)
  rintro r t ⟨t1, t2, t3⟩
  rw [e21] at t2
  have t23 : t 23 a = n1 A a - n0 A := by rw [t1 _ _ (by omega) (by omega)]; exact hec
  have e1 : n0 A + (n1 A a - n0 A) = n1 A a := by omega
  have hSJ : SJ A t (fun x b => A 10 (4 * b + x) - pX A a x b) := ⟨PG_congr (fun c i hc => t1 _ _ (by omega) (by omega)) j1, fun q hq => by rw [t1 _ _ (by omega) (by omega)]; exact j2 q hq, fun x b hx hb => by rw [t2 x b hx hb, j3 x b hx hb]; show A 10 (4 * b + x) - 1 * pX A a x b = A 10 (4 * b + x) - pX A a x b; omega, by rw [t3, h7]; omega⟩
  have hx := lp_sc2 d A t hv a ha hba hSJ (fun v hv hb => by rw [t1 _ _ (by omega) (by omega)]; exact hC v hv hb) (fun _ t => Fs2 s t ∧ SJ A t (fun x b => A 10 (4 * b + x)) ∧ t 14 7 = sg (A 10) 0 364 ∧ cR (sF2 A a (314 - a).toNat (a + 1) st) t) (sF2 A a (314 - a).toNat (a + 1) st) ?_ (314 - a).toNat (a + 1) st t 0 0 (by omega) (by omega) hst (fun _ _ _ _ => rfl) ?_ rfl
  · simp (disch := first | assumption | omega) only [rn, wk, al, wr_e, td_e, tm_e, mset_eq, mset_ne, if_pos, if_neg, Int.reduceAdd, Int.reduceSub, Int.reduceMul, Int.reduceNeg, Int.reduceLT, Int.reduceLE, Int.reduceEq, Int.cast_ofNat_Int, eq_self, and_true, true_and, ite_self, true_or, or_true, false_or, or_false, and_false, false_and, not_true_eq_false, not_false_eq_true, if_true, if_false, e_Guess_findSecond_0, e_Guess_findSecond_87, e_Guess_findSecond_133, e_Guess_findSecond_139, t23, e1]
    exact hx
  · intro y z1 z2 y1 y2
    obtain ⟨k1, k2, k3, k4⟩ := SJ_congr y1 hSJ
    simp (disch := first | assumption | omega) only [rn, wk, al, wr_e, td_e, tm_e, mset_eq, mset_ne, if_pos, if_neg, Int.reduceAdd, Int.reduceSub, Int.reduceMul, Int.reduceNeg, Int.reduceLT, Int.reduceLE, Int.reduceEq, Int.cast_ofNat_Int, eq_self, and_true, true_and, ite_self, true_or, or_true, false_or, or_false, and_false, false_and, not_true_eq_false, not_false_eq_true, if_true, if_false, e_Guess_findSecond_0, e_Guess_findSecond_87, e_Guess_findSecond_133, e_Guess_findSecond_139]
    refine EV_call (CV_mono (q_take (d + 0) A y hv k1 (a / 21) (a % 21) (-1) ha.2.2 (by omega) (Or.inr rfl) (fun j hj => ?_) (by omega)) ?_)
    · have q := k3 (j % 4) (j / 4) (by omega) (by omega)
      have q2 := pX_ok hv ha (x := j % 4) (b := j / 4) (by omega)
      have q3 := hr j hj
      simp only [show 4 * (j / 4) + j % 4 = j by omega] at q
      rw [q]; omega
    · rintro r2 w ⟨w1, w2, w3⟩
      rw [e21] at w2
      simp (disch := first | assumption | omega) only [rn, wk, al, wr_e, td_e, tm_e, mset_eq, mset_ne, if_pos, if_neg, Int.reduceAdd, Int.reduceSub, Int.reduceMul, Int.reduceNeg, Int.reduceLT, Int.reduceLE, Int.reduceEq, Int.cast_ofNat_Int, eq_self, and_true, true_and, ite_self, true_or, or_true, false_or, or_false, and_false, false_and, not_true_eq_false, not_false_eq_true, if_true, if_false, e_Guess_findSecond_0, e_Guess_findSecond_87, e_Guess_findSecond_133, e_Guess_findSecond_139]
      have h7' : w 14 7 = sg (A 10) 0 364 := by rw [w3, y1 _ _ (by omega) (by omega), t3, h7]; omega
      refine ⟨fun c i z1 z2 z3 => by rw [w1 c i (by omega) (by omega), y1 c i (by omega) (by omega), t1 c i (by omega) (by omega)], ⟨PG_congr (fun c i hc => w1 _ _ (by omega) (by omega)) k1, fun q hq => by rw [w1 _ _ (by omega) (by omega)]; exact k2 q hq, fun x b hx hb => by rw [w2 x b hx hb, k3 x b hx hb]; show A 10 (4 * b + x) - pX A a x b - -1 * pX A a x b = A 10 (4 * b + x); omega, by rw [h7']; omega⟩, h7', ?_⟩
      obtain ⟨c1, c2, c3, c4⟩ := y2
      exact ⟨by rw [w1 _ _ (by omega) (by omega)]; exact c1, by rw [w1 _ _ (by omega) (by omega)]; exact c2, fun h => by rw [w1 _ _ (by omega) (by omega)]; exact c3 h, fun h => by rw [w1 _ _ (by omega) (by omega)]; exact c4 h⟩
  · obtain ⟨c1, c2, c3, c4⟩ := hc
    exact ⟨by rw [t1 _ _ (by omega) (by omega)]; exact c1, by rw [t1 _ _ (by omega) (by omega)]; exact c2, fun h => by rw [t1 _ _ (by omega) (by omega)]; exact c3 h, fun h => by rw [t1 _ _ (by omega) (by omega)]; exact c4 h⟩
