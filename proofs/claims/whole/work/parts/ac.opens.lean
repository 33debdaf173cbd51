/-! ===== H2: answers, the reference: inCell, mayBe, opensAt ===== -/
theorem q_inCell (d : Nat) (A s : Mem) (h : RB A s) (v x b : Int) (hk : vK A v) (hr : rng x b) (hx : x < A 0 3) : sem (d + 4) 327 [137, v, 91 * x + b] s = some (pX A v x b, s) := by
  obtain ⟨k0, k1, k2, k3, k4, k5⟩ := hk
  have e1 : v / 21 / 3 = v / 63 := by omega
  have e2 : v / 21 % 3 = v % 63 / 21 := by omega
  rw [e1] at k4 k5
  rw [e2] at k5
  have hr1 := hr.1
  have hr2 := hr.2
  have hh := h
  obtain ⟨hv, hrc, hrs, hl, -⟩ := hh
  have h1 := hv.1
  unfold VC at h1
  have hp := hv.2.1 x ⟨hr1.1, hx⟩
  have es := hrs x ⟨hr1.1, hx⟩
  have e3 : (91 * x + b) / 91 = x := by omega
  have e4 : (91 * x + b) % 91 = b := by omega
  obtain ⟨n0', n1', n2'⟩ := nf_d h (c := v / 63) (p := A 5 x) (by omega) hp
  apply CV_eq; apply c_R_inCell
  rcases n2' with ⟨q1, q2⟩ | ⟨a, c, q1, q2, q3, q4⟩
  · have ez : pX A v x b = 0 := by
      unfold pX pt aP
      rw [e1, q1, if_neg (show ¬ ((10000000 : Int) < 10000000) by omega), ite_self, ite_self]
    simp (disch := first | assumption | omega) only [rn, wk, al, wr_e, td_e, tm_e, mset_eq, mset_ne, if_pos, if_neg, Int.reduceAdd, Int.reduceSub, Int.reduceMul, Int.reduceNeg, Int.reduceLT, Int.reduceLE, Int.reduceEq, Int.cast_ofNat_Int, eq_self, and_true, true_and, ite_self, true_or, or_true, false_or, or_false, and_false, false_and, not_true_eq_false, not_false_eq_true, if_true, if_false, e_R_inCell_0, e_R_inCell_47, e_R_inCell_77, e_R_inCell_81, e_R_inCell_97, q_callerRow, e3, e4, es, n0', q2, ez]
  · have qb := q_behindAt (d + 1) A s h (v / 63) (A 5 x) (by omega) hp (by omega)
    have e5 : dP A (v / 63) (A 5 x) / 1000 = a := by omega
    have e6 : bP A (v / 21) (A 5 x) = a := by unfold bP; rw [e1]; exact e5
    rw [e5] at qb
    by_cases ci : 0 ≤ b - v % 21 - a ∧ b - v % 21 - a < 3
    · have ql := q_loudAt d A s h (v / 63) (v % 63 / 21) (b - v % 21 - a) (A 5 x) (by omega) (by omega) ci hp
      have e7 : 3 * (v / 63) + v % 63 / 21 = v / 21 := by omega
      have ez : pX A v x b = aP A (v / 21) (A 5 x) (b - v % 21 - a) := by
        unfold pX pt
        rw [e6, if_pos hx, if_pos ci]
      rw [e7, ← ez] at ql
      simp (disch := first | assumption | omega) only [rn, wk, al, wr_e, td_e, tm_e, mset_eq, mset_ne, if_pos, if_neg, Int.reduceAdd, Int.reduceSub, Int.reduceMul, Int.reduceNeg, Int.reduceLT, Int.reduceLE, Int.reduceEq, Int.cast_ofNat_Int, eq_self, and_true, true_and, ite_self, true_or, or_true, false_or, or_false, and_false, false_and, not_true_eq_false, not_false_eq_true, if_true, if_false, e_R_inCell_0, e_R_inCell_47, e_R_inCell_77, e_R_inCell_81, e_R_inCell_97, q_callerRow, e3, e4, es, n0', q2, qb, ql]
    · have ez : pX A v x b = 0 := by
        unfold pX pt
        rw [e6, if_neg ci, ite_self]
      simp (disch := first | assumption | omega) only [rn, wk, al, wr_e, td_e, tm_e, mset_eq, mset_ne, if_pos, if_neg, Int.reduceAdd, Int.reduceSub, Int.reduceMul, Int.reduceNeg, Int.reduceLT, Int.reduceLE, Int.reduceEq, Int.cast_ofNat_Int, eq_self, and_true, true_and, ite_self, true_or, or_true, false_or, or_false, and_false, false_and, not_true_eq_false, not_false_eq_true, if_true, if_false, e_R_inCell_0, e_R_inCell_47, e_R_inCell_77, e_R_inCell_81, e_R_inCell_97, q_callerRow, e3, e4, es, n0', q2, qb, ez]
def chr (f g : Int → Int) : List Ent → Prop
  | [] => True
  | e :: P => f P.length = e.2.2 ∧ g P.length = 91 * e.1 + e.2.1 ∧ chr f g P
theorem chr_chs {f g : Int → Int} : ∀ P, chr f g P → chs f P
  | [], _ => trivial
  | _ :: P, h => ⟨h.1, chr_chs P h.2.2⟩
theorem chr_at {f g : Int → Int} : ∀ P, chr f g P → ∀ i, 0 ≤ i → i < (P.length : Int) → ∃ e, e ∈ P ∧ f i = e.2.2 ∧ g i = 91 * e.1 + e.2.1
  | [], _, i, h0, h1 => by have : i < ((0 : Nat) : Int) := h1; omega
  | e :: P, h, i, h0, h1 => by
    have el : ((e :: P).length : Int) = P.length + 1 := by simp
    rw [el] at h1
    by_cases c : i = P.length
    · rw [c]; exact ⟨e, List.mem_cons_self .., h.1, h.2.1⟩
    · obtain ⟨e', a, b⟩ := chr_at P h.2.2 i h0 (by omega)
      exact ⟨e', List.mem_cons_of_mem _ a, b⟩
theorem chr_in {f g : Int → Int} : ∀ P, chr f g P → ∀ e, e ∈ P → ∃ i, 0 ≤ i ∧ i < (P.length : Int) ∧ f i = e.2.2 ∧ g i = 91 * e.1 + e.2.1
  | [], _, e, h => absurd h (by simp)
  | e' :: P, h, e, he => by
    have el : ((e' :: P).length : Int) = P.length + 1 := by simp
    rw [el]
    rcases List.mem_cons.1 he with k | k
    · rw [k]; exact ⟨P.length, by omega, by omega, h.1, h.2.1⟩
    · obtain ⟨i, a, b, c⟩ := chr_in P h.2.2 e k
      exact ⟨i, a, by omega, c⟩
theorem chr_congr {f g f' g' : Int → Int} : ∀ P : List Ent, (∀ j, 0 ≤ j ∧ j < (P.length : Int) → f' j = f j ∧ g' j = g j) → chr f g P → chr f' g' P
  | [], _, _ => trivial
  | e :: P, h, hc => by
    have el : ((e :: P).length : Int) = P.length + 1 := by simp
    rw [el] at h
    have := h P.length (by omega)
    exact ⟨by rw [this.1]; exact hc.1, by rw [this.2]; exact hc.2.1, chr_congr P (fun j hj => h j (by omega)) hc.2.2⟩
theorem PW_in {A : Mem} : ∀ P, PW A P → ∀ e, e ∈ P → rng e.1 e.2.1 ∧ e.1 < A 0 3 ∧ vK A e.2.2 ∧ 0 < pX A e.2.2 e.1 e.2.1
  | [], _, e, h => absurd h (by simp)
  | e' :: P, h, e, he => by
    rcases List.mem_cons.1 he with k | k
    · rw [k]; exact ⟨h.2.2.2.2.1, (pX_in h.2.2.2.1).1, h.2.1, h.2.2.2.1⟩
    · exact PW_in P h.1 e k
theorem lp_mb (d : Nat) (A u : Mem) (hR : RB A u) (P : List Ent) (hPl : (P.length : Int) ≤ 4) (hP : PW A P) (hc : chr (u 149) (u 148) P) (v : Int) (hk : vK A v) (Q : Int → Mem → Prop) (h0 : (∃ e, e ∈ P ∧ 0 < pX A v e.1 e.2.1 ∧ v ≤ e.2.2) → Q 0 u) (h1 : (∀ e, e ∈ P → 0 < pX A v e.1 e.2.1 → e.2.2 < v) → Q 1 u) : ∀ (n : Nat) (i : Int), 0 ≤ i → i + n = P.length → (∀ j, 0 ≤ j → j < i → ∀ e, e ∈ P → u 149 j = e.2.2 → u 148 j = 91 * e.1 + e.2.1 → 0 < pX A v e.1 e.2.1 → e.2.2 < v) → EV (d + 4) o_R_mayBe 26 [] [137, v, P.length, i] u Q := by
  have hk0 := hk.1
  have hk1 := hk.2.1
  have hc3 := hR.1.1
  unfold VC at hc3
  intro n
  induction n with
  | zero =>
    intro i hi0 hi hj
    have hq := h1 (fun e he hp => by
      obtain ⟨j, a, b, c, f⟩ := chr_in P hc e he
      exact hj j a (by omega) e he c f hp)
    rw [e_R_mayBe_26]
    simp (disch := first | assumption | omega) only [rn, wk, al, wr_e, td_e, tm_e, mset_eq, mset_ne, if_pos, if_neg, Int.reduceAdd, Int.reduceSub, Int.reduceMul, Int.reduceNeg, Int.reduceLT, Int.reduceLE, Int.reduceEq, Int.cast_ofNat_Int, eq_self, and_true, true_and, ite_self, true_or, or_true, false_or, or_false, and_false, false_and, not_true_eq_false, not_false_eq_true, if_true, if_false, e_R_mayBe_0, e_R_mayBe_22, e_R_mayBe_24, e_R_mayBe_57, e_R_mayBe_63]
    exact hq
  | succ n ih =>
    intro i hi0 hi hj
    obtain ⟨e, e1, e2, e3⟩ := chr_at P hc i hi0 (by omega)
    obtain ⟨r1, r2, r3, r4⟩ := PW_in P hP e e1
    have qi := q_inCell d A u hR v e.1 e.2.1 hk r1 r2
    have ra := r1.1
    have rb := r1.2
    have rk := r3.1
    have rk1 := r3.2.1
    have pb := pX_ok hR.1 hk (x := e.1) (b := e.2.1) ra.1
    have uq : ∀ e', 91 * e'.1 + e'.2.1 = 91 * e.1 + e.2.1 → e' ∈ P → e'.1 = e.1 ∧ e'.2.1 = e.2.1 := fun e' h he => by
      obtain ⟨r1', -⟩ := PW_in P hP e' he
      have := r1'.1
      have := r1'.2
      omega
    rw [e_R_mayBe_26]
    by_cases cv : v ≤ e.2.2
    · by_cases cp : 0 < pX A v e.1 e.2.1
      · have hq := h0 ⟨e, e1, cp, cv⟩
        simp (disch := first | assumption | omega) only [rn, wk, al, wr_e, td_e, tm_e, mset_eq, mset_ne, if_pos, if_neg, Int.reduceAdd, Int.reduceSub, Int.reduceMul, Int.reduceNeg, Int.reduceLT, Int.reduceLE, Int.reduceEq, Int.cast_ofNat_Int, eq_self, and_true, true_and, ite_self, true_or, or_true, false_or, or_false, and_false, false_and, not_true_eq_false, not_false_eq_true, if_true, if_false, e_R_mayBe_0, e_R_mayBe_22, e_R_mayBe_24, e_R_mayBe_57, e_R_mayBe_63, e2, e3, qi]
        exact hq
      · have hx := ih (i + 1) (by omega) (by omega) (fun j a b e' m1 m2 m3 m4 => by
          by_cases c : j = i
          · rw [c, e3] at m3
            obtain ⟨w1, w2⟩ := uq e' m3.symm m1
            rw [w1, w2] at m4
            exact absurd m4 cp
          · exact hj j a (by omega) e' m1 m2 m3 m4)
        simp (disch := first | assumption | omega) only [rn, wk, al, wr_e, td_e, tm_e, mset_eq, mset_ne, if_pos, if_neg, Int.reduceAdd, Int.reduceSub, Int.reduceMul, Int.reduceNeg, Int.reduceLT, Int.reduceLE, Int.reduceEq, Int.cast_ofNat_Int, eq_self, and_true, true_and, ite_self, true_or, or_true, false_or, or_false, and_false, false_and, not_true_eq_false, not_false_eq_true, if_true, if_false, e_R_mayBe_0, e_R_mayBe_22, e_R_mayBe_24, e_R_mayBe_57, e_R_mayBe_63, e2, e3, qi]
        exact hx
    · have hx := ih (i + 1) (by omega) (by omega) (fun j a b e' m1 m2 m3 m4 => by
        by_cases c : j = i
        · rw [c, e2] at m2
          omega
        · exact hj j a (by omega) e' m1 m2 m3 m4)
      simp (disch := first | assumption | omega) only [rn, wk, al, wr_e, td_e, tm_e, mset_eq, mset_ne, if_pos, if_neg, Int.reduceAdd, Int.reduceSub, Int.reduceMul, Int.reduceNeg, Int.reduceLT, Int.reduceLE, Int.reduceEq, Int.cast_ofNat_Int, eq_self, and_true, true_and, ite_self, true_or, or_true, false_or, or_false, and_false, false_and, not_true_eq_false, not_false_eq_true, if_true, if_false, e_R_mayBe_0, e_R_mayBe_22, e_R_mayBe_24, e_R_mayBe_57, e_R_mayBe_63, e2, e3]
      exact hx
theorem q_mayBe (d : Nat) (A u : Mem) (hR : RB A u) (P : List Ent) (hPl : (P.length : Int) ≤ 4) (hP : PW A P) (hc : chr (u 149) (u 148) P) (x b : Int) (hr : rng x b) (hx : x < A 0 3) (hcell : u 148 P.length = 91 * x + b) (v : Int) (hv : 0 ≤ v ∧ v < 315) : ∃ r, ((r = 1 ∧ cand A P x b v) ∨ (r = 0 ∧ ¬ cand A P x b v)) ∧ sem (d + 5) 325 [137, v, P.length] u = some (r, u) := by
  have hr1 := hr.1
  have hr2 := hr.2
  by_cases ck : vQ A (v / 21)
  · have hk : vK A v := ⟨hv.1, hv.2, ck⟩
    have q1 := q_isCall1 (d + 1) A u hR v hk
    have q2 := q_inCell d A u hR v x b hk hr hx
    have pb := pX_ok hR.1 hk (x := x) (b := b) hr1.1
    by_cases cp : 0 < pX A v x b
    · by_cases cc : ∀ e, e ∈ P → 0 < pX A v e.1 e.2.1 → e.2.2 < v
      · have hcd : cand A P x b v := ⟨hk, fun hm => by
          obtain ⟨e, he, hev⟩ := List.mem_map.1 hm
          obtain ⟨-, -, -, r4⟩ := PW_in P hP e he
          have hev' : e.2.2 = v := hev
          rw [hev'] at r4
          have := cc e he r4
          omega, cp, hr, cc⟩
        refine ⟨1, Or.inl ⟨rfl, hcd⟩, ?_⟩
        apply CV_eq; apply c_R_mayBe
        have hl := lp_mb d A u hR P hPl hP hc v hk (fun r t => r = 1 ∧ t = u) (fun ⟨e, a, b, c⟩ => by have := cc e a b; omega) (fun _ => ⟨rfl, rfl⟩) P.length 0 (by omega) (by omega) (fun j a b => by omega)
        simp (disch := first | assumption | omega) only [rn, wk, al, wr_e, td_e, tm_e, mset_eq, mset_ne, if_pos, if_neg, Int.reduceAdd, Int.reduceSub, Int.reduceMul, Int.reduceNeg, Int.reduceLT, Int.reduceLE, Int.reduceEq, Int.cast_ofNat_Int, eq_self, and_true, true_and, ite_self, true_or, or_true, false_or, or_false, and_false, false_and, not_true_eq_false, not_false_eq_true, if_true, if_false, e_R_mayBe_0, e_R_mayBe_22, e_R_mayBe_24, e_R_mayBe_57, e_R_mayBe_63, q1, q2, hcell]
        exact hl
      · refine ⟨0, Or.inr ⟨rfl, fun h => cc h.2.2.2.2⟩, ?_⟩
        apply CV_eq; apply c_R_mayBe
        have hl := lp_mb d A u hR P hPl hP hc v hk (fun r t => r = 0 ∧ t = u) (fun _ => ⟨rfl, rfl⟩) (fun h => absurd h cc) P.length 0 (by omega) (by omega) (fun j a b => by omega)
        simp (disch := first | assumption | omega) only [rn, wk, al, wr_e, td_e, tm_e, mset_eq, mset_ne, if_pos, if_neg, Int.reduceAdd, Int.reduceSub, Int.reduceMul, Int.reduceNeg, Int.reduceLT, Int.reduceLE, Int.reduceEq, Int.cast_ofNat_Int, eq_self, and_true, true_and, ite_self, true_or, or_true, false_or, or_false, and_false, false_and, not_true_eq_false, not_false_eq_true, if_true, if_false, e_R_mayBe_0, e_R_mayBe_22, e_R_mayBe_24, e_R_mayBe_57, e_R_mayBe_63, q1, q2, hcell]
        exact hl
    · refine ⟨0, Or.inr ⟨rfl, fun h => cp h.2.2.1⟩, ?_⟩
      have ez : pX A v x b = 0 := by omega
      rw [ez] at q2
      apply CV_eq; apply c_R_mayBe
      simp (disch := first | assumption | omega) only [rn, wk, al, wr_e, td_e, tm_e, mset_eq, mset_ne, if_pos, if_neg, Int.reduceAdd, Int.reduceSub, Int.reduceMul, Int.reduceNeg, Int.reduceLT, Int.reduceLE, Int.reduceEq, Int.cast_ofNat_Int, eq_self, and_true, true_and, ite_self, true_or, or_true, false_or, or_false, and_false, false_and, not_true_eq_false, not_false_eq_true, if_true, if_false, e_R_mayBe_0, e_R_mayBe_22, e_R_mayBe_24, e_R_mayBe_57, e_R_mayBe_63, q1, q2, hcell]
  · have q1 := q_isCall0 (d + 1) A u hR v hv ck
    refine ⟨0, Or.inr ⟨rfl, fun h => ck h.1.2.2⟩, ?_⟩
    apply CV_eq; apply c_R_mayBe
    simp (disch := first | assumption | omega) only [rn, wk, al, wr_e, td_e, tm_e, mset_eq, mset_ne, if_pos, if_neg, Int.reduceAdd, Int.reduceSub, Int.reduceMul, Int.reduceNeg, Int.reduceLT, Int.reduceLE, Int.reduceEq, Int.cast_ofNat_Int, eq_self, and_true, true_and, ite_self, true_or, or_true, false_or, or_false, and_false, false_and, not_true_eq_false, not_false_eq_true, if_true, if_false, e_R_mayBe_0, e_R_mayBe_22, e_R_mayBe_24, e_R_mayBe_57, e_R_mayBe_63, q1, hcell]
