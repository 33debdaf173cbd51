/-! ===== H2: by how much a call changes the slips ===== -/
def z1 (v : Int) : Int := if v = 0 then 0 else 1
def nzz (f : Int → Int → Int) : Int := sg (fun x => sg (fun b => z1 (f x b)) 0 91) 0 4
def dl (am th : Int) : Int := z1 (th - am) - z1 th
theorem dl_0 (th : Int) : dl 0 th = 0 := by unfold dl; rw [Int.sub_zero]; omega
theorem z1_b (v : Int) : 0 ≤ z1 v ∧ z1 v ≤ 1 := by unfold z1; split <;> omega
theorem dl_b (a t : Int) : -1 ≤ dl a t ∧ dl a t ≤ 1 := by
  have h1 := z1_b (t - a)
  have h2 := z1_b t
  unfold dl; omega
theorem dl_p {a t : Int} (ha : 0 < a) (h : t = 0) : dl a t = 1 := by unfold dl z1; rw [if_neg (by omega), if_pos h]; rfl
theorem dl_m {a t : Int} (ha : 0 < a) (h : t = a) : dl a t = -1 := by unfold dl z1; rw [if_pos (by omega), if_neg (by omega)]; rfl
theorem dl_n {a t : Int} (h1 : t ≠ 0) (h : t ≠ a) : dl a t = 0 := by unfold dl z1; rw [if_neg (by omega), if_neg (by omega)]; rfl
theorem s3_b (f : Int → Int) (h : ∀ j, -1 ≤ f j ∧ f j ≤ 1) (i : Int) : -3 ≤ s3 f i ∧ s3 f i ≤ 3 := by
  have a := h 0
  have b := h 1
  have c := h 2
  unfold s3
  split <;> split <;> split <;> omega
theorem pt_h {A : Mem} (hv : VB A) {v x : Int} (hk : vK A v) (hx : 0 ≤ x ∧ x < A 0 3) (h : Int → Int → Int) (h0 : ∀ b, h b 0 = 0) : sg (fun b => h b (pt A v x b)) 0 91 = if dP A (v / 63) (A 5 x) < 10000000 then s3 (fun i => h (v % 21 + bP A (v / 21) (A 5 x) + i) (aP A (v / 21) (A 5 x) i)) 0 else 0 := by
  have hk0 := hk.1
  have h63 : v / 21 / 3 = v / 63 := by omega
  have hd := (dP_ok hv (vQ_c hk.2.2) (hv.2.1 x hx)).2
  rw [h63] at hd
  by_cases c : dP A (v / 63) (A 5 x) < 10000000
  · rw [if_pos c]
    have hb : 0 ≤ bP A (v / 21) (A 5 x) ∧ bP A (v / 21) (A 5 x) ≤ 54 := by
      unfold bP; rw [h63]
      rcases hd with hd | ⟨a, b, hd⟩ <;> omega
    have hg := sg_win (fun i => h (v % 21 + bP A (v / 21) (A 5 x) + i) (aP A (v / 21) (A 5 x) i)) (v % 21 + bP A (v / 21) (A 5 x)) (by omega)
    have e3 : s3 (fun i => h (v % 21 + bP A (v / 21) (A 5 x) + i) (aP A (v / 21) (A 5 x) i)) 0 = (fun i => h (v % 21 + bP A (v / 21) (A 5 x) + i) (aP A (v / 21) (A 5 x) i)) 0 + (fun i => h (v % 21 + bP A (v / 21) (A 5 x) + i) (aP A (v / 21) (A 5 x) i)) 1 + (fun i => h (v % 21 + bP A (v / 21) (A 5 x) + i) (aP A (v / 21) (A 5 x) i)) 2 := by unfold s3; simp
    rw [e3, ← hg]
    apply sg_congr
    intro b _ _
    show h b (pt A v x b) = _
    unfold pt
    by_cases cb : v % 21 + bP A (v / 21) (A 5 x) ≤ b ∧ b < v % 21 + bP A (v / 21) (A 5 x) + 3
    · rw [if_pos (by omega), if_pos cb]
      show _ = h (v % 21 + bP A (v / 21) (A 5 x) + (b - (v % 21 + bP A (v / 21) (A 5 x)))) (aP A (v / 21) (A 5 x) (b - (v % 21 + bP A (v / 21) (A 5 x))))
      rw [show v % 21 + bP A (v / 21) (A 5 x) + (b - (v % 21 + bP A (v / 21) (A 5 x))) = b by omega, show b - v % 21 - bP A (v / 21) (A 5 x) = b - (v % 21 + bP A (v / 21) (A 5 x)) by omega]
    · rw [if_neg (by omega), if_neg cb, h0]
  · rw [if_neg c]
    apply sg_zero
    intro b _ _
    show h b (pt A v x b) = 0
    have : pt A v x b = 0 := by
      unfold pt aP; rw [h63, if_neg c, ite_self]
    rw [this, h0]
/-- by how much the call v changes the slips on the slate x -/
def Wv (A u : Mem) (v x : Int) : Int := sg (fun b => dl (pX A v x b) (u 18 (4 * b + x))) 0 91
theorem nzz_W (A u : Mem) (v : Int) : sg (Wv A u v) 0 4 = nzz (fun x b => u 18 (4 * b + x) - pX A v x b) - nzz (fun x b => u 18 (4 * b + x)) := by
  unfold nzz
  rw [← sg_sub]
  apply sg_congr
  intro x _ _
  show Wv A u v x = _
  unfold Wv
  rw [← sg_sub]
  rfl
theorem lp_cb2 (d : Nat) (A u : Mem) (hv : VB A) (v x : Int) (hk : vK A v) (hx : 0 ≤ x ∧ x < A 0 3) (hg : gl1 A u (v / 21) x) (hop : 0 ≤ opn A (v / 21) x) (hb : 0 ≤ bP A (v / 21) (A 5 x) ∧ bP A (v / 21) (A 5 x) ≤ 54) (D0 : Int) (hD0 : -20 ≤ D0 ∧ D0 ≤ 20) (Q : Int → Mem → Prop) (hQ : ∀ z1 z2, EV (d + 1) o_Guess_changeBy 122 [] [14, v, v / 21, D0, x, 4 * (v / 21) + x, 3, z1, z2] u Q) : ∀ (n : Nat) (i D z1 z2 : Int), 0 ≤ i → i + n = 3 → D + s3 (fun i => dl (aP A (v / 21) (A 5 x) i) (u 18 (4 * (v % 21 + bP A (v / 21) (A 5 x) + i) + x))) i = D0 → EV (d + 1) o_Guess_changeBy 33 [] [14, v, v / 21, D, x, 4 * (v / 21) + x, i, z1, z2] u Q := by
  have h1 := hv.1
  unfold VC at h1
  have hp := hv.2.1 x hx
  have hq := hk.2.2
  have hk0 := hk.1
  have hq0 := hq.1
  have hq1 := hq.2.1
  obtain ⟨g1, g2⟩ := hg
  obtain ⟨g3, g4⟩ := g2 (by omega)
  have hsb : ∀ i : Int, 0 ≤ i → i ≤ 3 → -3 ≤ s3 (fun i => dl (aP A (v / 21) (A 5 x) i) (u 18 (4 * (v % 21 + bP A (v / 21) (A 5 x) + i) + x))) i ∧ s3 (fun i => dl (aP A (v / 21) (A 5 x) i) (u 18 (4 * (v % 21 + bP A (v / 21) (A 5 x) + i) + x))) i ≤ 3 := by
    exact fun i _ _ => s3_b _ (fun j => dl_b _ _) i
  intro n
  induction n with
  | zero =>
    intro i D z1 z2 hi hn hD
    have ei : i = 3 := by omega
    subst ei
    have e0 : s3 (fun i => dl (aP A (v / 21) (A 5 x) i) (u 18 (4 * (v % 21 + bP A (v / 21) (A 5 x) + i) + x))) 3 = 0 := rfl
    have hq := hQ z1 z2
    rw [← hD, e0, Int.add_zero] at hq
    rw [e_Guess_changeBy_33]
    simp (disch := first | assumption | omega) only [rn, wk, al, wr_e, td_e, tm_e, mset_eq, mset_ne, if_pos, if_neg, Int.reduceAdd, Int.reduceSub, Int.reduceMul, Int.reduceNeg, Int.reduceLT, Int.reduceLE, Int.reduceEq, Int.cast_ofNat_Int, eq_self, and_true, true_and, ite_self, true_or, or_true, false_or, or_false, and_false, false_and, not_true_eq_false, not_false_eq_true, if_true, if_false]
    exact hq
  | succ n ih =>
    intro i D z1 z2 hi hn hD
    have gi := aP_ok hv hq hp (i := i) (by omega)
    have a19 : u 19 ((4 * (v / 21) + x) * 3 + i) = aP A (v / 21) (A 5 x) i := by rw [show (4 * (v / 21) + x) * 3 + i = 12 * (v / 21) + 3 * x + i by omega]; exact g4 i (by omega)
    have hss := s3_s (fun i => dl (aP A (v / 21) (A 5 x) i) (u 18 (4 * (v % 21 + bP A (v / 21) (A 5 x) + i) + x))) (i := i) (by omega)
    have hs1 := hsb (i + 1) (by omega) (by omega)
    have hs2 := hsb i (by omega) (by omega)
    rw [hss] at hD
    have hD' : D + (dl (aP A (v / 21) (A 5 x) i) (u 18 (4 * (v % 21 + bP A (v / 21) (A 5 x) + i) + x)) + s3 (fun i => dl (aP A (v / 21) (A 5 x) i) (u 18 (4 * (v % 21 + bP A (v / 21) (A 5 x) + i) + x))) (i + 1)) = D0 := hD
    clear hD hss
    rw [e_Guess_changeBy_33]
    by_cases c1 : 0 < aP A (v / 21) (A 5 x) i
    · by_cases c2 : u 18 (4 * (v % 21 + bP A (v / 21) (A 5 x) + i) + x) = 0
      · rw [dl_p c1 c2] at hD'
        have hx2 := ih (i + 1) (D + 1) (aP A (v / 21) (A 5 x) i) 0 (by omega) (by omega) (by omega)
        simp (disch := first | assumption | omega) only [rn, wk, al, wr_e, td_e, tm_e, mset_eq, mset_ne, if_pos, if_neg, Int.reduceAdd, Int.reduceSub, Int.reduceMul, Int.reduceNeg, Int.reduceLT, Int.reduceLE, Int.reduceEq, Int.cast_ofNat_Int, eq_self, and_true, true_and, ite_self, true_or, or_true, false_or, or_false, and_false, false_and, not_true_eq_false, not_false_eq_true, if_true, if_false, e_Guess_changeBy_0, e_Guess_changeBy_101, e_Guess_changeBy_116, e_Guess_changeBy_128, a19, g3, q_cellOf, c2]
        exact hx2
      · by_cases c3 : u 18 (4 * (v % 21 + bP A (v / 21) (A 5 x) + i) + x) = aP A (v / 21) (A 5 x) i
        · rw [dl_m c1 c3] at hD'
          have hx2 := ih (i + 1) (D + -1) (aP A (v / 21) (A 5 x) i) (aP A (v / 21) (A 5 x) i) (by omega) (by omega) (by omega)
          simp (disch := first | assumption | omega) only [rn, wk, al, wr_e, td_e, tm_e, mset_eq, mset_ne, if_pos, if_neg, Int.reduceAdd, Int.reduceSub, Int.reduceMul, Int.reduceNeg, Int.reduceLT, Int.reduceLE, Int.reduceEq, Int.cast_ofNat_Int, eq_self, and_true, true_and, ite_self, true_or, or_true, false_or, or_false, and_false, false_and, not_true_eq_false, not_false_eq_true, if_true, if_false, e_Guess_changeBy_0, e_Guess_changeBy_101, e_Guess_changeBy_116, e_Guess_changeBy_128, a19, g3, q_cellOf, c3]
          exact hx2
        · rw [dl_n c2 c3] at hD'
          have hx2 := ih (i + 1) D (aP A (v / 21) (A 5 x) i) (u 18 (4 * (v % 21 + bP A (v / 21) (A 5 x) + i) + x)) (by omega) (by omega) (by omega)
          simp (disch := first | assumption | omega) only [rn, wk, al, wr_e, td_e, tm_e, mset_eq, mset_ne, if_pos, if_neg, Int.reduceAdd, Int.reduceSub, Int.reduceMul, Int.reduceNeg, Int.reduceLT, Int.reduceLE, Int.reduceEq, Int.cast_ofNat_Int, eq_self, and_true, true_and, ite_self, true_or, or_true, false_or, or_false, and_false, false_and, not_true_eq_false, not_false_eq_true, if_true, if_false, e_Guess_changeBy_0, e_Guess_changeBy_101, e_Guess_changeBy_116, e_Guess_changeBy_128, a19, g3, q_cellOf]
          exact hx2
    · have ez : aP A (v / 21) (A 5 x) i = 0 := by omega
      rw [ez, dl_0] at hD'
      have hx2 := ih (i + 1) D (aP A (v / 21) (A 5 x) i) (u 18 (4 * (v % 21 + bP A (v / 21) (A 5 x) + i) + x)) (by omega) (by omega) (by omega)
      simp (disch := first | assumption | omega) only [rn, wk, al, wr_e, td_e, tm_e, mset_eq, mset_ne, if_pos, if_neg, Int.reduceAdd, Int.reduceSub, Int.reduceMul, Int.reduceNeg, Int.reduceLT, Int.reduceLE, Int.reduceEq, Int.cast_ofNat_Int, eq_self, and_true, true_and, ite_self, true_or, or_true, false_or, or_false, and_false, false_and, not_true_eq_false, not_false_eq_true, if_true, if_false, e_Guess_changeBy_0, e_Guess_changeBy_101, e_Guess_changeBy_116, e_Guess_changeBy_128, a19, g3, q_cellOf]
      exact hx2
theorem Wv_b {A u : Mem} (hv : VB A) {v x : Int} (hk : vK A v) (hx : 0 ≤ x) : -3 ≤ Wv A u v x ∧ Wv A u v x ≤ 3 := by
  unfold Wv pX
  by_cases c : x < A 0 3
  · simp only [if_pos c]
    rw [pt_h hv hk ⟨hx, c⟩ (fun b a => dl a (u 18 (4 * b + x))) (fun b => dl_0 _)]
    split
    · exact s3_b _ (fun j => dl_b _ _) 0
    · omega
  · simp only [if_neg c]
    rw [sg_zero 91 0 _ (fun i _ _ => dl_0 _)]; omega
theorem lp_cb1 (d : Nat) (A u : Mem) (hv : VB A) (hP : PG A u) (v : Int) (hk : vK A v) (Q : Int → Mem → Prop) (hQ : Q (sg (Wv A u v) 0 4) u) : ∀ (n : Nat) (x : Nat) (z0 z1 z2 z3 : Int), x + n = 4 → EV (d + 1) o_Guess_changeBy 10 [] [14, v, v / 21, sg (Wv A u v) 0 x, x, z0, z1, z2, z3] u Q := by
  have h1 := hv.1
  unfold VC at h1
  have hq := hk.2.2
  have hk0 := hk.1
  have hq0 := hq.1
  have hq1 := hq.2.1
  have h63 : v / 21 / 3 = v / 63 := by omega
  have hsb : ∀ n : Nat, n ≤ 4 → -20 ≤ sg (Wv A u v) 0 n ∧ sg (Wv A u v) 0 n ≤ 20 := by
    have k : ∀ n : Nat, -(3 * (n : Int)) ≤ sg (Wv A u v) 0 n ∧ sg (Wv A u v) 0 n ≤ 3 * n := by
      intro n
      induction n with
      | zero => show -(3 * ((0 : Nat) : Int)) ≤ 0 ∧ (0 : Int) ≤ 3 * ((0 : Nat) : Int); omega
      | succ n ih =>
        rw [sg_last, Int.zero_add]
        have := Wv_b (u := u) hv hk (x := (n : Int)) (by omega)
        omega
    intro n hn
    have := k n
    omega
  intro n
  induction n with
  | zero =>
    intro x z0 z1 z2 z3 hx
    have ex : x = 4 := by omega
    subst ex
    rw [e_Guess_changeBy_10]
    simp (disch := first | assumption | omega) only [rn, wk, al, wr_e, td_e, tm_e, mset_eq, mset_ne, if_pos, if_neg, Int.reduceAdd, Int.reduceSub, Int.reduceMul, Int.reduceNeg, Int.reduceLT, Int.reduceLE, Int.reduceEq, Int.cast_ofNat_Int, eq_self, and_true, true_and, ite_self, true_or, or_true, false_or, or_false, and_false, false_and, not_true_eq_false, not_false_eq_true, if_true, if_false, e_Guess_changeBy_0, e_Guess_changeBy_101, e_Guess_changeBy_116, e_Guess_changeBy_122, e_Guess_changeBy_128]
    exact hQ
  | succ n ih =>
    intro x z0 z1 z2 z3 hx
    have en : ((x + 1 : Nat) : Int) = (x : Int) + 1 := by omega
    have e4 : v / 21 * 4 + (x : Int) = 4 * (v / 21) + x := by omega
    have hgd := hP (v / 21) x (by omega) (by omega)
    have hb1 := hsb x (by omega)
    have hb2 := hsb (x + 1) (by omega)
    have hsl : sg (Wv A u v) 0 (x + 1) = sg (Wv A u v) 0 x + Wv A u v x := by rw [sg_last, Int.zero_add]
    have nothing : Wv A u v x = 0 → u 21 (4 * (v / 21) + x) = -1 → EV (d + 1) o_Guess_changeBy 10 [] [14, v, v / 21, sg (Wv A u v) 0 x, x, z0, z1, z2, z3] u Q := by
      intro k2 k3
      have hx2 := ih (x + 1) (4 * (v / 21) + x) (-1) z2 z3 (by omega)
      rw [hsl, k2, Int.add_zero, en] at hx2
      rw [e_Guess_changeBy_10]
      simp (disch := first | assumption | omega) only [rn, wk, al, wr_e, td_e, tm_e, mset_eq, mset_ne, if_pos, if_neg, Int.reduceAdd, Int.reduceSub, Int.reduceMul, Int.reduceNeg, Int.reduceLT, Int.reduceLE, Int.reduceEq, Int.cast_ofNat_Int, eq_self, and_true, true_and, ite_self, true_or, or_true, false_or, or_false, and_false, false_and, not_true_eq_false, not_false_eq_true, if_true, if_false, e4, k3]
      rw [e_Guess_changeBy_33]
      simp (disch := first | assumption | omega) only [rn, wk, al, wr_e, td_e, tm_e, mset_eq, mset_ne, if_pos, if_neg, Int.reduceAdd, Int.reduceSub, Int.reduceMul, Int.reduceNeg, Int.reduceLT, Int.reduceLE, Int.reduceEq, Int.cast_ofNat_Int, eq_self, and_true, true_and, ite_self, true_or, or_true, false_or, or_false, and_false, false_and, not_true_eq_false, not_false_eq_true, if_true, if_false, e_Guess_changeBy_0, e_Guess_changeBy_101, e_Guess_changeBy_116, e_Guess_changeBy_122, e_Guess_changeBy_128]
      exact hx2
    by_cases cx : (x : Int) < A 0 3
    · have hg := hgd.1 ⟨hq, cx⟩
      have hp := hv.2.1 (x : Int) ⟨by omega, cx⟩
      have hd := (dP_ok hv (vQ_c hq) hp).2
      have eW : Wv A u v x = if dP A (v / 63) (A 5 x) < 10000000 then s3 (fun i => dl (aP A (v / 21) (A 5 x) i) (u 18 (4 * (v % 21 + bP A (v / 21) (A 5 x) + i) + x))) 0 else 0 := by
        unfold Wv pX
        simp only [if_pos cx]
        exact pt_h hv hk ⟨by omega, cx⟩ (fun b a => dl a (u 18 (4 * b + x))) (fun b => dl_0 _)
      rcases opn_f A (v / 21) x with ⟨o1, o2, o3, o4⟩ | ⟨o1, o2⟩
      · have a0 := aP_ok hv hq hp (i := 0) (by omega)
        have a1 := aP_ok hv hq hp (i := 1) (by omega)
        have a2 := aP_ok hv hq hp (i := 2) (by omega)
        refine nothing ?_ (by rw [hg.1, o1])
        rw [eW]
        split
        · unfold s3
          simp only [show aP A (v / 21) (A 5 x) 0 = 0 by omega, show aP A (v / 21) (A 5 x) 1 = 0 by omega, show aP A (v / 21) (A 5 x) 2 = 0 by omega, dl_0, ite_self]; rfl
        · rfl
      · have cd : dP A (v / 63) (A 5 x) < 10000000 := by
          by_cases c : dP A (v / 63) (A 5 x) < 10000000
          · exact c
          · exfalso
            have ez : ∀ i, aP A (v / 21) (A 5 x) i = 0 := fun i => by unfold aP; rw [h63, if_neg c]
            have : opn A (v / 21) x = -1 := by unfold opn; rw [ez, ez, ez]; rfl
            omega
        have hbP : 0 ≤ bP A (v / 21) (A 5 x) ∧ bP A (v / 21) (A 5 x) ≤ 54 := by
          rw [h63] at hd
          unfold bP; rw [h63]
          rcases hd with h | ⟨a, b, h⟩ <;> omega
        rw [if_pos cd] at eW
        have es : s3 (fun i => dl (aP A (v / 21) (A 5 x) i) (u 18 (4 * (v % 21 + bP A (v / 21) (A 5 x) + i) + x))) (opn A (v / 21) x) = Wv A u v x := by
          rw [eW]
          have hz : ∀ i, 0 ≤ i ∧ i < opn A (v / 21) x → (fun i => dl (aP A (v / 21) (A 5 x) i) (u 18 (4 * (v % 21 + bP A (v / 21) (A 5 x) + i) + x))) i = 0 := by
            intro i hi
            have q1 := o2 i hi
            have q2 := aP_ok hv hq hp (i := i) (by omega)
            show dl (aP A (v / 21) (A 5 x) i) _ = 0
            rw [show aP A (v / 21) (A 5 x) i = 0 by omega, dl_0]
          generalize (fun i => dl (aP A (v / 21) (A 5 x) i) (u 18 (4 * (v % 21 + bP A (v / 21) (A 5 x) + i) + x))) = f at hz ⊢
          generalize opn A (v / 21) x = o at o1 hz ⊢
          obtain rfl | rfl | rfl : o = 0 ∨ o = 1 ∨ o = 2 := by omega
          · rfl
          · rw [s3_s f (i := 0) (by omega), hz 0 (by omega), Int.zero_add]; rfl
          · rw [s3_s f (i := 0) (by omega), hz 0 (by omega), Int.zero_add, s3_s f (i := 0 + 1) (by omega), hz (0 + 1) (by omega), Int.zero_add]; rfl
        rw [e_Guess_changeBy_10]
        simp (disch := first | assumption | omega) only [rn, wk, al, wr_e, td_e, tm_e, mset_eq, mset_ne, if_pos, if_neg, Int.reduceAdd, Int.reduceSub, Int.reduceMul, Int.reduceNeg, Int.reduceLT, Int.reduceLE, Int.reduceEq, Int.cast_ofNat_Int, eq_self, and_true, true_and, ite_self, true_or, or_true, false_or, or_false, and_false, false_and, not_true_eq_false, not_false_eq_true, if_true, if_false, e4, hg.1]
        refine lp_cb2 d A u hv v x hk ⟨by omega, cx⟩ hg (by omega) hbP (sg (Wv A u v) 0 (x + 1)) hb2 Q ?_ (3 - opn A (v / 21) x).toNat (opn A (v / 21) x) (sg (Wv A u v) 0 x) _ _ (by omega) (by omega) (by rw [es, hsl])
        intro y1 y2
        have hx2 := ih (x + 1) (4 * (v / 21) + x) 3 y1 y2 (by omega)
        rw [en] at hx2
        simp (disch := first | assumption | omega) only [rn, wk, al, wr_e, td_e, tm_e, mset_eq, mset_ne, if_pos, if_neg, Int.reduceAdd, Int.reduceSub, Int.reduceMul, Int.reduceNeg, Int.reduceLT, Int.reduceLE, Int.reduceEq, Int.cast_ofNat_Int, eq_self, and_true, true_and, ite_self, true_or, or_true, false_or, or_false, and_false, false_and, not_true_eq_false, not_false_eq_true, if_true, if_false, e_Guess_changeBy_0, e_Guess_changeBy_101, e_Guess_changeBy_116, e_Guess_changeBy_122, e_Guess_changeBy_128]
        exact hx2
    · have hn := hgd.2 (fun h => cx h.2)
      refine nothing ?_ hn
      unfold Wv pX
      simp only [if_neg cx]
      exact sg_zero 91 0 _ (fun i _ _ => dl_0 _)
theorem q_changeBy (d : Nat) (A u : Mem) (hv : VB A) (hP : PG A u) (v : Int) (hk : vK A v) : sem (d + 2) 158 [14, v] u = some (nzz (fun x b => u 18 (4 * b + x) - pX A v x b) - nzz (fun x b => u 18 (4 * b + x)), u) := by
  apply CV_eq; apply c_Guess_changeBy
  have hk0 := hk.1
  have hk1 := hk.2.1
  have hx := lp_cb1 d A u hv hP v hk (fun r t => r = nzz (fun x b => u 18 (4 * b + x) - pX A v x b) - nzz (fun x b => u 18 (4 * b + x)) ∧ t = u) ⟨nzz_W A u v, rfl⟩ 4 0 0 0 0 0 (by omega)
  simp (disch := first | assumption | omega) only [rn, wk, al, wr_e, td_e, tm_e, mset_eq, mset_ne, if_pos, if_neg, Int.reduceAdd, Int.reduceSub, Int.reduceMul, Int.reduceNeg, Int.reduceLT, Int.reduceLE, Int.reduceEq, Int.cast_ofNat_Int, eq_self, and_true, true_and, ite_self, true_or, or_true, false_or, or_false, and_false, false_and, not_true_eq_false, not_false_eq_true, if_true, if_false, e_Guess_changeBy_0, e_Guess_changeBy_101, e_Guess_changeBy_116, e_Guess_changeBy_122, e_Guess_changeBy_128]
  exact hx
