/-! ===== H2: the class finds the ways ===== -/
theorem Fpost_uniq {A : Mem} (hc : VC A) (hw : VW A) {w : Int} {D D' : Int → Int → Int} (h : Fpost A w 1000 10000000 D) (h' : Fpost A w 1000 10000000 D') {a b : Int} (ha : 0 ≤ a ∧ a < A 0 1) (hb : 0 ≤ b ∧ b < A 0 1) : D a b = D' a b := by
  have hp := hc.2.1.2
  rcases fpost_dst hw hp (Or.inr rfl) (by omega) h ha hb with ⟨p1, p2⟩ | ⟨x, y, p1, p2, p3, p4⟩
  · rcases fpost_dst hw hp (Or.inr rfl) (by omega) h' ha hb with ⟨q1, q2⟩ | ⟨x', y', q1, q2, q3, q4⟩
    · omega
    · obtain ⟨n, q1⟩ := q1.1
      exact absurd q1 (p2 n x' y')
  · rcases fpost_dst hw hp (Or.inr rfl) (by omega) h' ha hb with ⟨q1, q2⟩ | ⟨x', y', q1, q2, q3, q4⟩
    · obtain ⟨n, p1⟩ := p1.1
      exact absurd p1 (q2 n x y)
    · obtain ⟨rfl, rfl⟩ := dsw_uniq p1 q1
      omega
def fW (A : Mem) (D : Int → Int → Int) (w W : Int) : Int → Int → Int := fun k x => Mw D (A 2 (2 * w)) (A 2 (2 * w + 1)) W (A 6 (A 9 k / 63)) (A 5 x)
def Hw (A : Mem) (w z l : Int) : Prop := ¬ (z = A 3 w ∧ l = A 4 w) ∧ ∀ D, Fpost A w 1000 10000000 D → Ex A (fW A D w (1000 * z + l))
theorem Hw_iff {A : Mem} (hc : VC A) (hw : VW A) (hvs : VS A) (hvl : VL A) (hk : vKs A) {w z l : Int} (hwr : 0 ≤ w ∧ w < A 0 2) {D : Int → Int → Int} (h : Fpost A w 1000 10000000 D) : Hw A w z l ↔ (¬ (z = A 3 w ∧ l = A 4 w) ∧ Ex A (fW A D w (1000 * z + l))) := by
  constructor
  · intro ⟨h1, h2⟩; exact ⟨h1, h2 D h⟩
  · intro ⟨h1, h2⟩
    refine ⟨h1, fun D' h' => ?_⟩
    have hcc := hc
    unfold VC at hcc
    have hv := hw w hwr
    refine (Ex_congr (by omega) ?_).mp h2
    intro k x hk1 hx v b
    have hvk := hk k hk1
    have hq := vQ_c hvk.2.2
    rw [show A 9 k / 21 / 3 = A 9 k / 63 by omega] at hq
    have ha := (hvl _ hq).1
    have hp := hvs x hx
    have e : fW A D w (1000 * z + l) k x = fW A D' w (1000 * z + l) k x := by
      unfold fW Mw
      rw [Fpost_uniq hc hw h h' ha hp, Fpost_uniq hc hw h h' ha hv.1, Fpost_uniq hc hw h h' hv.2.1 hp, Fpost_uniq hc hw h h' ha hv.2.1, Fpost_uniq hc hw h h' hv.1 hp]
    rw [e]
noncomputable def ind (p : Prop) : Int := @ite Int p (Classical.propDecidable p) 1 0
theorem ind_1 {p : Prop} (h : p) : ind p = 1 := by unfold ind; rw [if_pos h]
theorem ind_0 {p : Prop} (h : ¬ p) : ind p = 0 := by unfold ind; rw [if_neg h]
theorem ind_b (p : Prop) : 0 ≤ ind p ∧ ind p ≤ 1 := by
  by_cases h : p
  · rw [ind_1 h]; omega
  · rw [ind_0 h]; omega
def Hj (A : Mem) (j : Int) : Prop := Hw A (j / 90) (1 + j % 90 / 10) (j % 10)
noncomputable def cnt (A : Mem) (j : Int) : Int := sg (fun i => ind (Hj A i)) 0 j.toNat
theorem cnt_s {A : Mem} {j : Int} (h : 0 ≤ j) : cnt A (j + 1) = cnt A j + ind (Hj A j) := by
  unfold cnt
  rw [show (j + 1).toNat = j.toNat + 1 by omega, sg_last, Int.zero_add, show ((j.toNat : Nat) : Int) = j by omega]
theorem cnt_mono {A : Mem} : ∀ (n : Nat) (j : Int), 0 ≤ j → cnt A j ≤ cnt A (j + n) := by
  intro n
  induction n with
  | zero => intro j h; rw [show j + ((0 : Nat) : Int) = j by omega]; omega
  | succ n ih =>
    intro j h
    have h1 := ih j h
    have h2 := cnt_s (A := A) (j := j + n) (by omega)
    have := ind_b (Hj A (j + n))
    rw [show j + ((n + 1 : Nat) : Int) = j + n + 1 by omega]; omega
theorem cnt_lt {A : Mem} {i j : Int} (hi : 0 ≤ i) (hij : i < j) (h : Hj A i) : cnt A i + 1 ≤ cnt A j := by
  have h1 := cnt_s (A := A) hi
  rw [ind_1 h] at h1
  have h2 := cnt_mono (A := A) (j - (i + 1)).toNat (i + 1) (by omega)
  rw [show i + 1 + (((j - (i + 1)).toNat : Nat) : Int) = j by omega] at h2
  omega
theorem cnt_b {A : Mem} {j : Int} (h : 0 ≤ j) : 0 ≤ cnt A j ∧ cnt A j ≤ j := by
  have := sg_bd (f := fun i => ind (Hj A i)) (m := 1) j.toNat 0 (fun i _ _ => ind_b _)
  unfold cnt; omega
/-- what the class has found among the first J -/
def mvI (A u : Mem) (k J : Int) : Prop := u 24 0 = cnt A J ∧ ∀ j, 0 ≤ j ∧ j < J → Hj A j → cnt A j = k → u 24 1 = j / 90 ∧ u 24 2 = 1 + j % 90 / 10 ∧ u 24 3 = j % 10
def Fmv (s u : Mem) : Prop := ∀ c i, ¬ (24 ≤ c ∧ c ≤ 30) → u c i = s c i
/-- the hall, what is recorded, the pairs' distances by the table D without the way w -/
def PP (A u : Mem) (D : Int → Int → Int) (w : Int) : Prop := (∀ k, 0 ≤ k → k < 20 → win u 37 k = A k) ∧ (∀ j, 0 ≤ j ∧ j < 364 → u 26 j = A 10 j) ∧ u 24 4 = sg (A 10) 0 364 ∧ ∀ k x, 0 ≤ k ∧ k < A 0 5 → 0 ≤ x ∧ x < A 0 3 → u 29 (4 * k + x) = D (A 6 (A 9 k / 63)) (A 5 x) ∧ u 30 (4 * k + x) = min (D (A 6 (A 9 k / 63)) (A 2 (2 * w)) + D (A 2 (2 * w + 1)) (A 5 x)) (D (A 6 (A 9 k / 63)) (A 2 (2 * w + 1)) + D (A 2 (2 * w)) (A 5 x))
/-- what is known of a hall with something recorded -/
def KA (A : Mem) : Prop := VC A ∧ VW A ∧ VS A ∧ VL A ∧ VN A ∧ vKs A ∧ ∀ j, 0 ≤ j ∧ j < 364 → 0 ≤ A 10 j ∧ A 10 j ≤ 999
theorem D_b {A : Mem} (hc : VC A) (hw : VW A) {w : Int} {D : Int → Int → Int} (h : Fpost A w 1000 10000000 D) {a b : Int} (ha : 0 ≤ a ∧ a < A 0 1) (hb : 0 ≤ b ∧ b < A 0 1) : 0 ≤ D a b ∧ D a b ≤ 10000000 := by
  have hp := hc.2.1.2
  rcases fpost_dst hw hp (Or.inr rfl) (by omega) h ha hb with ⟨p1, p2⟩ | ⟨x, y, p1, p2, p3, p4⟩ <;> omega
theorem exS_of {A u : Mem} (hK : KA A) {D : Int → Int → Int} {w : Int} (hwr : 0 ≤ w ∧ w < A 0 2) (h : Fpost A w 1000 10000000 D) (hP : PP A u D w) {W : Int} (hW : W = 10000000 ∨ ∃ z l, W = 1000 * z + l ∧ (1 ≤ z ∧ z ≤ 9) ∧ (0 ≤ l ∧ l ≤ 9)) : exS A u (fW A D w W) W := by
  obtain ⟨hc, hw, hvs, hvl, hvn, hk, hr⟩ := hK
  obtain ⟨p1, p2, p3, p4⟩ := hP
  have hcc := hc
  unfold VC at hcc
  have hv := hw w hwr
  refine ⟨⟨hc, hvs, hvl, hvn⟩, hk, p1, ?_, fun j hj => by rw [p2 j hj]; exact ⟨rfl, hr j hj⟩, ?_, by rcases hW with rfl | ⟨z, l, rfl, a, b⟩ <;> omega⟩
  · intro k x hk1 hx
    obtain ⟨q1, q2⟩ := p4 k x hk1 hx
    have hvk := hk k hk1
    have hq := vQ_c hvk.2.2
    rw [show A 9 k / 21 / 3 = A 9 k / 63 by omega] at hq
    have ha := (hvl _ hq).1
    have hp := hvs x hx
    have b1 := D_b hc hw h ha hp
    have b2 := D_b hc hw h ha hv.1
    have b3 := D_b hc hw h hv.2.1 hp
    have b4 := D_b hc hw h ha hv.2.1
    have b5 := D_b hc hw h hv.1 hp
    rw [q1, q2]
    refine ⟨b1, by omega, rfl, ?_⟩
    rcases hW with rfl | ⟨z, l, rfl, hz, hl⟩
    · have hd := fpost_dst hw hcc.2.1.2 (Or.inr rfl) (by omega) h ha hp
      unfold fW Mw okD
      by_cases c : D (A 6 (A 9 k / 63)) (A 5 x) = 10000000
      · exact Or.inl (by omega)
      · rcases hd with q | ⟨x', y', r1, r2, r3, r4⟩
        · exact absurd q.1 c
        · exact Or.inr ⟨x', y', by omega, r3, r4⟩
    · have hn := newway hw hwr hz hl h
      have e1 : chg A w z l 0 1 = A 0 1 := chg_o (by omega)
      have hd := fpost_dst (VW_chg hw (w := w) hz hl) (by rw [e1]; omega) (Or.inr rfl) (by omega) hn (a := A 6 (A 9 k / 63)) (b := A 5 x) (by rw [e1]; exact ha) (by rw [e1]; exact hp)
      unfold okD
      show 10000000 ≤ Mw D (A 2 (2 * w)) (A 2 (2 * w + 1)) (1000 * z + l) (A 6 (A 9 k / 63)) (A 5 x) ∨ ∃ x' y', Mw D (A 2 (2 * w)) (A 2 (2 * w + 1)) (1000 * z + l) (A 6 (A 9 k / 63)) (A 5 x) = 1000 * x' + y' ∧ _
      by_cases c : Mw D (A 2 (2 * w)) (A 2 (2 * w + 1)) (1000 * z + l) (A 6 (A 9 k / 63)) (A 5 x) < 10000000
      · have eN : Nw D (A 2 (2 * w)) (A 2 (2 * w + 1)) (1000 * z + l) (A 6 (A 9 k / 63)) (A 5 x) = Mw D (A 2 (2 * w)) (A 2 (2 * w + 1)) (1000 * z + l) (A 6 (A 9 k / 63)) (A 5 x) := if_pos c
        rcases hd with q | ⟨x', y', r1, r2, r3, r4⟩
        · rw [eN] at q; omega
        · exact Or.inr ⟨x', y', by rw [← eN]; exact r2, r3, r4⟩
      · exact Or.inl (by omega)
  · rw [p3]
    exact sg_congr 364 0 (fun j a b => (p2 j (by omega)).symm)
theorem PP_congr {A u t : Mem} {D : Int → Int → Int} {w : Int} (h : ∀ c i, c ≠ 27 → c ≠ 28 → ¬ (c = 26) → ¬ (c = 24 ∧ ¬ (i = 4)) → t c i = u c i) (h26 : ∀ j, 0 ≤ j ∧ j < 364 → t 26 j = u 26 j) (hP : PP A u D w) : PP A t D w := by
  obtain ⟨p1, p2, p3, p4⟩ := hP
  refine ⟨fun k a b => ?_, fun j hj => by rw [h26 j hj]; exact p2 j hj, by rw [h _ _ (by omega) (by omega) (by omega) (by omega)]; exact p3, fun k x a b => ?_⟩
  · rw [← p1 k a b]; funext i; exact h _ _ (by omega) (by omega) (by omega) (by omega)
  · rw [h _ _ (by omega) (by omega) (by omega) (by omega), h _ _ (by omega) (by omega) (by omega) (by omega)]; exact p4 k x a b
theorem q_note (d : Nat) (u : Mem) (w z l k : Int) (h : 0 ≤ u 24 0 ∧ u 24 0 ≤ 2000) : sem (d + 1) 169 [24, w, z, l, k] u = some (0, if u 24 0 = k then mset (mset (mset (mset u 24 1 w) 24 2 z) 24 3 l) 24 0 (u 24 0 + 1) else mset u 24 0 (u 24 0 + 1)) := by
  apply CV_eq; apply c_Moves_note
  by_cases c : u 24 0 = k
  · rw [if_pos c]
    simp (disch := first | assumption | omega) only [rn, wk, al, wr_e, td_e, tm_e, mset_eq, mset_ne, if_pos, if_neg, Int.reduceAdd, Int.reduceSub, Int.reduceMul, Int.reduceNeg, Int.reduceLT, Int.reduceLE, Int.reduceEq, Int.cast_ofNat_Int, eq_self, and_true, true_and, ite_self, true_or, or_true, false_or, or_false, and_false, false_and, not_true_eq_false, not_false_eq_true, if_true, if_false, e_Moves_note_0, e_Moves_note_24]
  · rw [if_neg c]
    simp (disch := first | assumption | omega) only [rn, wk, al, wr_e, td_e, tm_e, mset_eq, mset_ne, if_pos, if_neg, Int.reduceAdd, Int.reduceSub, Int.reduceMul, Int.reduceNeg, Int.reduceLT, Int.reduceLE, Int.reduceEq, Int.cast_ofNat_Int, eq_self, and_true, true_and, ite_self, true_or, or_true, false_or, or_false, and_false, false_and, not_true_eq_false, not_false_eq_true, if_true, if_false, e_Moves_note_0, e_Moves_note_24]
theorem mv_hit {A u t : Mem} {k J : Int} (hJ : 0 ≤ J) (hu : mvI A u k J) (h : Hj A J) (t0 : t 24 0 = u 24 0 + 1) (t1 : u 24 0 = k → t 24 1 = J / 90 ∧ t 24 2 = 1 + J % 90 / 10 ∧ t 24 3 = J % 10) (t2 : u 24 0 ≠ k → t 24 1 = u 24 1 ∧ t 24 2 = u 24 2 ∧ t 24 3 = u 24 3) : mvI A t k (J + 1) := by
  obtain ⟨h1, h2⟩ := hu
  refine ⟨by rw [t0, h1, cnt_s hJ, ind_1 h], fun j hj hH hc => ?_⟩
  by_cases e : j = J
  · subst e; exact t1 (by omega)
  · have := cnt_lt (A := A) (i := j) (j := J) hj.1 (by omega) hH
    have q := t2 (by omega)
    have q2 := h2 j (by omega) hH hc
    rw [q.1, q.2.1, q.2.2]; exact q2
theorem mv_miss {A u t : Mem} {k J : Int} (hJ : 0 ≤ J) (hu : mvI A u k J) (h : ¬ Hj A J) (ht : ∀ i, 0 ≤ i ∧ i ≤ 3 → t 24 i = u 24 i) : mvI A t k (J + 1) := by
  obtain ⟨h1, h2⟩ := hu
  refine ⟨by rw [ht 0 (by omega), h1, cnt_s hJ, ind_0 h]; omega, fun j hj hH hc => ?_⟩
  by_cases e : j = J
  · subst e; exact absurd hH h
  · rw [ht 1 (by omega), ht 2 (by omega), ht 3 (by omega)]; exact h2 j (by omega) hH hc
theorem lp_fo2 (d : Nat) (A s : Mem) (hK : KA A) (D : Int → Int → Int) (w k : Int) (hwr : 0 ≤ w ∧ w < A 0 2) (hD : Fpost A w 1000 10000000 D) (ew : Int) (hew : (ew = 1 ∧ Ex A (fW A D w 10000000)) ∨ (ew = 0 ∧ ¬ Ex A (fW A D w 10000000))) (z : Int) (hz : 1 ≤ z ∧ z ≤ 9) (Q : Int → Mem → Prop) (hQ : ∀ u z1 z2 z3, Fmv s u → PP A u D w → mvI A u k (90 * w + 10 * z) → EV (d + 4) o_Moves_findOf 118 [] [24, 37, w, k, ew, z, z1, z2, z3] u Q) : ∀ (n : Nat) (l : Int) (u : Mem) (z2 z3 : Int), 0 ≤ l → l + n = 10 → Fmv s u → PP A u D w → mvI A u k (90 * w + 10 * (z - 1) + l) → EV (d + 4) o_Moves_findOf 22 [] [24, 37, w, k, ew, z, l, z2, z3] u Q := by
  have hK' := hK
  obtain ⟨hc, hw, hvs, hvl, hvn, hk, hr⟩ := hK'
  have hcc := hc
  unfold VC at hcc
  have hv := hw w hwr
  intro n
  induction n with
  | zero =>
    intro l u z2 z3 h0 hl hf hP hm
    rw [show 90 * w + 10 * (z - 1) + l = 90 * w + 10 * z by omega] at hm
    have hq := hQ u l z2 z3 hf hP hm
    rw [e_Moves_findOf_22]
    simp (disch := first | assumption | omega) only [rn, wk, al, wr_e, td_e, tm_e, mset_eq, mset_ne, if_pos, if_neg, Int.reduceAdd, Int.reduceSub, Int.reduceMul, Int.reduceNeg, Int.reduceLT, Int.reduceLE, Int.reduceEq, Int.cast_ofNat_Int, eq_self, and_true, true_and, ite_self, true_or, or_true, false_or, or_false, and_false, false_and, not_true_eq_false, not_false_eq_true, if_true, if_false]
    exact hq
  | succ n ih =>
    intro l u z2 z3 h0 hl hf hP hm
    obtain ⟨J, hJ⟩ : ∃ J, J = 90 * w + 10 * (z - 1) + l := ⟨_, rfl⟩
    have hHj : Hj A J = Hw A w z l := by
      unfold Hj
      rw [show J / 90 = w by omega, show 1 + J % 90 / 10 = z by omega, show J % 10 = l by omega]
    have g3 : u 40 w = A 3 w := by rw [← hP.1 3 (by omega) (by omega)]; rfl
    have g4 : u 41 w = A 4 w := by rw [← hP.1 4 (by omega) (by omega)]; rfl
    have gs3 : u 37 3 = A 0 3 := by rw [← hP.1 0 (by omega) (by omega)]; rfl
    have gs5 : u 37 5 = A 0 5 := by rw [← hP.1 0 (by omega) (by omega)]; rfl
    have hcb := cnt_b (A := A) (j := J) (by omega)
    rw [← hJ] at hm
    have next : ∀ t y2 y3, Fmv s t → PP A t D w → mvI A t k (J + 1) → EV (d + 4) o_Moves_findOf 22 [] [24, 37, w, k, ew, z, l + 1, y2, y3] t Q := by
      intro t y2 y3 a b c
      refine ih (l + 1) t y2 y3 (by omega) (by omega) a b ?_
      rw [show 90 * w + 10 * (z - 1) + (l + 1) = J + 1 by omega]; exact c
    have e1k : z * 1000 + l = 1000 * z + l := by omega
    by_cases cs : z = A 3 w ∧ l = A 4 w
    · have hn : ¬ Hj A J := by rw [hHj]; intro h; exact h.1 cs
      have hx := next u 1 (1000 * z + l) hf hP (mv_miss (by omega) hm hn (fun _ _ => rfl))
      have es1 : ¬ ¬ z = A 3 w := by omega
      have es2 : ¬ ¬ l = A 4 w := by omega
      rw [e_Moves_findOf_22]
      simp (disch := first | assumption | omega) only [rn, wk, al, wr_e, td_e, tm_e, mset_eq, mset_ne, if_pos, if_neg, Int.reduceAdd, Int.reduceSub, Int.reduceMul, Int.reduceNeg, Int.reduceLT, Int.reduceLE, Int.reduceEq, Int.cast_ofNat_Int, eq_self, and_true, true_and, ite_self, true_or, or_true, false_or, or_false, and_false, false_and, not_true_eq_false, not_false_eq_true, if_true, if_false, e_Moves_findOf_0, e_Moves_findOf_55, e_Moves_findOf_56, e_Moves_findOf_97, e_Moves_findOf_102, e_Moves_findOf_112, e_Moves_findOf_124, g3, g4, e1k]
      exact hx
    · have hS := exS_of hK hwr hD hP (W := 1000 * z + l) (Or.inr ⟨z, l, rfl, hz, by omega⟩)
      have hb29 : ∀ k x, 0 ≤ k ∧ k < A 0 5 → 0 ≤ x ∧ x < A 0 3 → (0 ≤ u 29 (4 * k + x) ∧ u 29 (4 * k + x) ≤ 10000000) ∧ (0 ≤ u 30 (4 * k + x) ∧ u 30 (4 * k + x) ≤ 20000000) := fun k x a b => ⟨(hS.2.2.2.1 k x a b).1, (hS.2.2.2.1 k x a b).2.1⟩
      have hH : Hj A J ↔ Ex A (fW A D w (1000 * z + l)) := by
        rw [hHj, Hw_iff hc hw hvs hvl hk hwr hD]
        exact ⟨fun h => h.2, fun h => ⟨cs, h⟩⟩
      have noted : ∀ t y2 y3, Fmv s t → PP A t D w → (∀ i, 0 ≤ i ∧ i ≤ 3 → t 24 i = u 24 i) → Hj A J → EV (d + 4) o_Moves_findOf 102 [] [24, 37, w, k, ew, z, l, y2, y3] t Q := by
        intro t y2 y3 a b c hh
        have c0 := c 0 (by omega)
        have hm0 := hm.1
        have qn := q_note (d + 3) t w z l k (by omega)
        by_cases ck : t 24 0 = k
        · rw [if_pos ck] at qn
          have hx := next (mset (mset (mset (mset t 24 1 w) 24 2 z) 24 3 l) 24 0 (t 24 0 + 1)) y2 y3 (fun c i h => by rw [mset_ne (by omega), mset_ne (by omega), mset_ne (by omega), mset_ne (by omega)]; exact a c i h) (PP_congr (fun c i y1 y2 y3 y4 => by rw [mset_ne (by omega), mset_ne (by omega), mset_ne (by omega), mset_ne (by omega)]) (fun j hj => by rw [mset_ne (by omega), mset_ne (by omega), mset_ne (by omega), mset_ne (by omega)]) b) (mv_hit (by omega) hm hh (by rw [mset_eq rfl rfl, c0]) (fun _ => by
            simp (disch := omega) only [mset_ne, mset_eq]
            exact ⟨by omega, by omega, by omega⟩) (fun h => by omega))
          rw [e_Moves_findOf_102]
          simp (disch := first | assumption | omega) only [rn, wk, al, wr_e, td_e, tm_e, mset_eq, mset_ne, if_pos, if_neg, Int.reduceAdd, Int.reduceSub, Int.reduceMul, Int.reduceNeg, Int.reduceLT, Int.reduceLE, Int.reduceEq, Int.cast_ofNat_Int, eq_self, and_true, true_and, ite_self, true_or, or_true, false_or, or_false, and_false, false_and, not_true_eq_false, not_false_eq_true, if_true, if_false, e_Moves_findOf_0, e_Moves_findOf_55, e_Moves_findOf_56, e_Moves_findOf_97, e_Moves_findOf_102, e_Moves_findOf_112, e_Moves_findOf_124, qn]
          exact hx
        · rw [if_neg ck] at qn
          have hx := next (mset t 24 0 (t 24 0 + 1)) y2 y3 (fun c i h => by rw [mset_ne (by omega)]; exact a c i h) (PP_congr (fun c i y1 y2 y3 y4 => by rw [mset_ne (by omega)]) (fun j hj => by rw [mset_ne (by omega)]) b) (mv_hit (by omega) hm hh (by rw [mset_eq rfl rfl, c0]) (fun h => by omega) (fun _ => by
            simp (disch := omega) only [mset_ne]
            exact ⟨c 1 (by omega), c 2 (by omega), c 3 (by omega)⟩))
          rw [e_Moves_findOf_102]
          simp (disch := first | assumption | omega) only [rn, wk, al, wr_e, td_e, tm_e, mset_eq, mset_ne, if_pos, if_neg, Int.reduceAdd, Int.reduceSub, Int.reduceMul, Int.reduceNeg, Int.reduceLT, Int.reduceLE, Int.reduceEq, Int.cast_ofNat_Int, eq_self, and_true, true_and, ite_self, true_or, or_true, false_or, or_false, and_false, false_and, not_true_eq_false, not_false_eq_true, if_true, if_false, e_Moves_findOf_0, e_Moves_findOf_55, e_Moves_findOf_56, e_Moves_findOf_97, e_Moves_findOf_102, e_Moves_findOf_112, e_Moves_findOf_124, qn]
          exact hx
      have missed : ∀ t y2 y3, Fmv s t → PP A t D w → (∀ i, 0 ≤ i ∧ i ≤ 3 → t 24 i = u 24 i) → ¬ Hj A J → EV (d + 4) o_Moves_findOf 112 [] [24, 37, w, k, ew, z, l, y2, y3] t Q := by
        intro t y2 y3 a b c hh
        have hx := next t y2 y3 a b (mv_miss (by omega) hm hh c)
        simp (disch := first | assumption | omega) only [rn, wk, al, wr_e, td_e, tm_e, mset_eq, mset_ne, if_pos, if_neg, Int.reduceAdd, Int.reduceSub, Int.reduceMul, Int.reduceNeg, Int.reduceLT, Int.reduceLE, Int.reduceEq, Int.cast_ofNat_Int, eq_self, and_true, true_and, ite_self, true_or, or_true, false_or, or_false, and_false, false_and, not_true_eq_false, not_false_eq_true, if_true, if_false, e_Moves_findOf_0, e_Moves_findOf_55, e_Moves_findOf_56, e_Moves_findOf_97, e_Moves_findOf_102, e_Moves_findOf_112, e_Moves_findOf_124]
        exact hx
      have go : EV (d + 4) o_Moves_findOf 56 [0] [24, 37, w, k, ew, z, l, z2, z3] u Q := by
        rw [e_Moves_findOf_56]
        simp (disch := first | assumption | omega) only [rn, wk, al, wr_e, td_e, tm_e, mset_eq, mset_ne, if_pos, if_neg, Int.reduceAdd, Int.reduceSub, Int.reduceMul, Int.reduceNeg, Int.reduceLT, Int.reduceLE, Int.reduceEq, Int.cast_ofNat_Int, eq_self, and_true, true_and, ite_self, true_or, or_true, false_or, or_false, and_false, false_and, not_true_eq_false, not_false_eq_true, if_true, if_false, e1k]
        refine EV_call (CV_mono (q_isUsed (d + 3) A u (1000 * z + l) ⟨gs3, by omega, by omega⟩ ⟨gs5, by omega, by omega⟩ (by omega) hb29) ?_)
        rintro r t ⟨rfl, rfl | ⟨rfl, hun⟩⟩
        · simp (disch := first | assumption | omega) only [rn, wk, al, wr_e, td_e, tm_e, mset_eq, mset_ne, if_pos, if_neg, Int.reduceAdd, Int.reduceSub, Int.reduceMul, Int.reduceNeg, Int.reduceLT, Int.reduceLE, Int.reduceEq, Int.cast_ofNat_Int, eq_self, and_true, true_and, ite_self, true_or, or_true, false_or, or_false, and_false, false_and, not_true_eq_false, not_false_eq_true, if_true, if_false]
          refine EV_call (CV_mono (q_explains d A t (fW A D w (1000 * z + l)) (1000 * z + l) hS) ?_)
          rintro r2 t2 ⟨x1, x2, x3, ⟨rfl, hE⟩ | ⟨rfl, hE⟩⟩
          · simp (disch := first | assumption | omega) only [rn, wk, al, wr_e, td_e, tm_e, mset_eq, mset_ne, if_pos, if_neg, Int.reduceAdd, Int.reduceSub, Int.reduceMul, Int.reduceNeg, Int.reduceLT, Int.reduceLE, Int.reduceEq, Int.cast_ofNat_Int, eq_self, and_true, true_and, ite_self, true_or, or_true, false_or, or_false, and_false, false_and, not_true_eq_false, not_false_eq_true, if_true, if_false]
            exact noted t2 _ _ (fun c i h => by rw [x1 c i (by omega) (by omega) (by omega) (by omega)]; exact hf c i h) (PP_congr (fun c i y1 y2 y3 y4 => by
              by_cases e : c = 24 ∧ i = 4
              · rw [e.1, e.2]; exact x3
              · exact x1 c i (by omega) y1 y2 (by omega)) x2 hP) (fun i hi => x1 _ _ (by omega) (by omega) (by omega) (by omega)) (hH.mpr hE)
          · simp (disch := first | assumption | omega) only [rn, wk, al, wr_e, td_e, tm_e, mset_eq, mset_ne, if_pos, if_neg, Int.reduceAdd, Int.reduceSub, Int.reduceMul, Int.reduceNeg, Int.reduceLT, Int.reduceLE, Int.reduceEq, Int.cast_ofNat_Int, eq_self, and_true, true_and, ite_self, true_or, or_true, false_or, or_false, and_false, false_and, not_true_eq_false, not_false_eq_true, if_true, if_false]
            exact missed t2 _ _ (fun c i h => by rw [x1 c i (by omega) (by omega) (by omega) (by omega)]; exact hf c i h) (PP_congr (fun c i y1 y2 y3 y4 => by
              by_cases e : c = 24 ∧ i = 4
              · rw [e.1, e.2]; exact x3
              · exact x1 c i (by omega) y1 y2 (by omega)) x2 hP) (fun i hi => x1 _ _ (by omega) (by omega) (by omega) (by omega)) (fun h => hE (hH.mp h))
        · have hcong : Ex A (fW A D w (1000 * z + l)) ↔ Ex A (fW A D w 10000000) := by
            refine Ex_congr (by omega) (fun k' x' a b v b' => ?_)
            have q := hun k' x' a b
            have p4 := hP.2.2.2 k' x' a b
            have bb := hb29 k' x' a b
            rw [p4.1, p4.2] at q bb
            have eA : fW A D w (1000 * z + l) k' x' = D (A 6 (A 9 k' / 63)) (A 5 x') := by unfold fW Mw; omega
            rw [eA]
            by_cases cF : D (A 6 (A 9 k' / 63)) (A 5 x') = 10000000
            · have eB : ¬ fW A D w 10000000 k' x' < 10000000 := by unfold fW Mw; omega
              unfold ptd
              rw [if_neg (fun h => by omega), if_neg (fun h => eB h.1)]
            · have eB : fW A D w 10000000 k' x' = D (A 6 (A 9 k' / 63)) (A 5 x') := by unfold fW Mw; omega
              rw [eB]
          rw [hcong] at hH
          rcases hew with ⟨h1, h2⟩ | ⟨h1, h2⟩
          · have hx := noted t 0 (1000 * z + l) hf hP (fun _ _ => rfl) (hH.mpr h2)
            simp (disch := first | assumption | omega) only [rn, wk, al, wr_e, td_e, tm_e, mset_eq, mset_ne, if_pos, if_neg, Int.reduceAdd, Int.reduceSub, Int.reduceMul, Int.reduceNeg, Int.reduceLT, Int.reduceLE, Int.reduceEq, Int.cast_ofNat_Int, eq_self, and_true, true_and, ite_self, true_or, or_true, false_or, or_false, and_false, false_and, not_true_eq_false, not_false_eq_true, if_true, if_false, e_Moves_findOf_0, e_Moves_findOf_55, e_Moves_findOf_56, e_Moves_findOf_97, e_Moves_findOf_124, h1]
            rw [h1] at hx; exact hx
          · have hx := missed t 0 (1000 * z + l) hf hP (fun _ _ => rfl) (fun h => h2 (hH.mp h))
            simp (disch := first | assumption | omega) only [rn, wk, al, wr_e, td_e, tm_e, mset_eq, mset_ne, if_pos, if_neg, Int.reduceAdd, Int.reduceSub, Int.reduceMul, Int.reduceNeg, Int.reduceLT, Int.reduceLE, Int.reduceEq, Int.cast_ofNat_Int, eq_self, and_true, true_and, ite_self, true_or, or_true, false_or, or_false, and_false, false_and, not_true_eq_false, not_false_eq_true, if_true, if_false, e_Moves_findOf_0, e_Moves_findOf_55, e_Moves_findOf_56, e_Moves_findOf_97, e_Moves_findOf_124, h1]
            rw [h1] at hx; exact hx
      rw [e_Moves_findOf_22]
      by_cases c1 : z = A 3 w
      · have c2 : ¬ l = A 4 w := fun h => cs ⟨c1, h⟩
        simp (disch := first | assumption | omega) only [rn, wk, al, wr_e, td_e, tm_e, mset_eq, mset_ne, if_pos, if_neg, Int.reduceAdd, Int.reduceSub, Int.reduceMul, Int.reduceNeg, Int.reduceLT, Int.reduceLE, Int.reduceEq, Int.cast_ofNat_Int, eq_self, and_true, true_and, ite_self, true_or, or_true, false_or, or_false, and_false, false_and, not_true_eq_false, not_false_eq_true, if_true, if_false, e_Moves_findOf_0, e_Moves_findOf_55, e_Moves_findOf_97, e_Moves_findOf_102, e_Moves_findOf_112, e_Moves_findOf_124, g3, g4]
        exact go
      · simp (disch := first | assumption | omega) only [rn, wk, al, wr_e, td_e, tm_e, mset_eq, mset_ne, if_pos, if_neg, Int.reduceAdd, Int.reduceSub, Int.reduceMul, Int.reduceNeg, Int.reduceLT, Int.reduceLE, Int.reduceEq, Int.cast_ofNat_Int, eq_self, and_true, true_and, ite_self, true_or, or_true, false_or, or_false, and_false, false_and, not_true_eq_false, not_false_eq_true, if_true, if_false, e_Moves_findOf_0, e_Moves_findOf_55, e_Moves_findOf_97, e_Moves_findOf_102, e_Moves_findOf_112, e_Moves_findOf_124, g3, g4]
        exact go
