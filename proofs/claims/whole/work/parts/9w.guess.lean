/-! ===== H2: the class listens to each kind ===== -/
/-- the first number of the kind q that is heard on the slate x -/
def opn (A : Mem) (q x : Int) : Int := if 0 < aP A q (A 5 x) 0 then 0 else if 0 < aP A q (A 5 x) 1 then 1 else if 0 < aP A q (A 5 x) 2 then 2 else -1
/-- on how many places the kind q is heard on the slate x -/
def brx (A : Mem) (q x : Int) : Int := p1_ (aP A q (A 5 x) 0) + p1_ (aP A q (A 5 x) 1) + p1_ (aP A q (A 5 x) 2)
/-- what listenOn leaves of a kind and a slate -/
def gl1 (A u : Mem) (q x : Int) : Prop := u 21 (4 * q + x) = opn A q x ∧ (opn A q x ≠ -1 → u 20 (4 * q + x) = bP A q (A 5 x) ∧ ∀ i, 0 ≤ i ∧ i < 3 → u 19 (12 * q + 3 * x + i) = aP A q (A 5 x) i)
def Fgu (s u : Mem) (q x : Int) : Prop := ∀ c i, ¬ (c = 19 ∧ 12 * q + 3 * x ≤ i ∧ i < 12 * q + 3 * x + 3) → ¬ (c = 20 ∧ i = 4 * q + x) → ¬ (c = 21 ∧ i = 4 * q + x) → ¬ (c = 22 ∧ i = q) → u c i = s c i
def op3 (g : Int → Int) (i : Int) : Int := if i ≤ 0 ∧ 0 < g 0 then 0 else if i ≤ 1 ∧ 0 < g 1 then 1 else if i ≤ 2 ∧ 0 < g 2 then 2 else -1
def s3 (h : Int → Int) (i : Int) : Int := (if i ≤ 0 then h 0 else 0) + (if i ≤ 1 then h 1 else 0) + (if i ≤ 2 then h 2 else 0)
theorem op3_s (g : Int → Int) {i : Int} (hi : 0 ≤ i ∧ i < 3) : op3 g i = if 0 < g i then i else op3 g (i + 1) := by
  unfold op3
  obtain rfl | rfl | rfl : i = 0 ∨ i = 1 ∨ i = 2 := by omega
  · by_cases c0 : 0 < g 0 <;> by_cases c1 : 0 < g 1 <;> by_cases c2 : 0 < g 2 <;> simp [c0, c1, c2]
  · by_cases c1 : 0 < g 1 <;> by_cases c2 : 0 < g 2 <;> simp [c1, c2]
  · by_cases c2 : 0 < g 2 <;> simp [c2]
theorem s3_s (h : Int → Int) {i : Int} (hi : 0 ≤ i ∧ i < 3) : s3 h i = h i + s3 h (i + 1) := by
  unfold s3
  obtain rfl | rfl | rfl : i = 0 ∨ i = 1 ∨ i = 2 := by omega
  · rw [if_pos (by omega), if_pos (by omega), if_pos (by omega), if_neg (by omega), if_pos (by omega), if_pos (by omega)]; omega
  · rw [if_neg (by omega), if_pos (by omega), if_pos (by omega), if_neg (by omega), if_neg (by omega), if_pos (by omega)]; omega
  · rw [if_neg (by omega), if_neg (by omega), if_pos (by omega), if_neg (by omega), if_neg (by omega), if_neg (by omega)]; omega
theorem lp_lo3 (d : Nat) (u : Mem) (g : Int → Int) (q x D bb : Int) (hq : 0 ≤ q ∧ q < 15) (hx : 0 ≤ x ∧ x < 4) (hD : 0 ≤ D) (hg : ∀ i, 0 ≤ i ∧ i < 3 → 0 ≤ g i ∧ g i ≤ 99) (h22 : 0 ≤ u 22 q ∧ u 22 q ≤ 100) (rows : ∀ t : Mem, (∀ j, t 45 j = u 45 j) → ∀ i, 0 ≤ i ∧ i < 3 → sem (d + 2) 119 [37, q, i, D % 1000] t = some (g i, t)) (Q : Int → Mem → Prop) (hQ : ∀ t, Fgu u t q x → t 20 (4 * q + x) = bb → (∀ j, 0 ≤ j ∧ j < 3 → t 19 (12 * q + 3 * x + j) = g j) → t 21 (4 * q + x) = op3 g 0 → t 22 q = u 22 q + s3 (fun j => p1_ (g j)) 0 → Q (s3 g 0) t) : ∀ (n : Nat) (t : Mem) (z : Int), n ≤ 3 → Fgu u t q x → t 20 (4 * q + x) = bb → (∀ j, (n : Int) ≤ j ∧ j < 3 → t 19 (12 * q + 3 * x + j) = g j) → t 21 (4 * q + x) = op3 g n → t 22 q = u 22 q + s3 (fun j => p1_ (g j)) n → EV (d + 2) o_Guess_listenOn 44 [] [14, 37, q, x, D, s3 g n, 4 * q + x, (n : Int) - 1, z] t Q := by
  have hp : ∀ j, 0 ≤ p1_ (g j) ∧ p1_ (g j) ≤ 1 := fun j => by unfold p1_; split <;> omega
  have hs0 : ∀ h : Int → Int, (∀ j, 0 ≤ h j ∧ h j ≤ 1) → ∀ i : Int, 0 ≤ s3 h i ∧ s3 h i ≤ 3 := fun h hh i => by
    have a := hh 0
    have b := hh 1
    have c := hh 2
    unfold s3
    split <;> split <;> split <;> omega
  have hs3 : ∀ i : Int, 0 ≤ i → 0 ≤ s3 (fun j => p1_ (g j)) i ∧ s3 (fun j => p1_ (g j)) i ≤ 3 := fun i _ => hs0 _ hp i
  have hsg : ∀ i : Int, 0 ≤ i → 0 ≤ s3 g i ∧ s3 g i ≤ 297 := fun i _ => by
    have a := hg 0 (by omega)
    have b := hg 1 (by omega)
    have c := hg 2 (by omega)
    unfold s3
    split <;> split <;> split <;> omega
  intro n
  induction n with
  | zero =>
    intro t z hn hf h20 h19 h21 h22'
    have hq := hQ t hf h20 (fun j hj => h19 j (by omega)) h21 h22'
    rw [e_Guess_listenOn_44]
    simp (disch := first | assumption | omega) only [rn, wk, al, wr_e, td_e, tm_e, mset_eq, mset_ne, if_pos, if_neg, Int.reduceAdd, Int.reduceSub, Int.reduceMul, Int.reduceNeg, Int.reduceLT, Int.reduceLE, Int.reduceEq, Int.cast_ofNat_Int, eq_self, and_true, true_and, ite_self, true_or, or_true, false_or, or_false, and_false, false_and, not_true_eq_false, not_false_eq_true, if_true, if_false, e_Guess_listenOn_0, e_Guess_listenOn_19, e_Guess_listenOn_108, e_Guess_listenOn_114]
    exact hq
  | succ n ih =>
    intro t z hn hf h20 h19 h21 h22'
    have en : ((n + 1 : Nat) : Int) - 1 = n := by omega
    have en1 : ((n + 1 : Nat) : Int) = (n : Int) + 1 := by omega
    have ri := rows t (fun j => hf _ _ (by omega) (by omega) (by omega) (by omega)) n (by omega)
    have gi := hg n (by omega)
    have e12 : (4 * q + x) * 3 + (n : Int) = 12 * q + 3 * x + n := by omega
    have sst := s3_s g (i := (n : Int)) (by omega)
    have sp := s3_s (fun j => p1_ (g j)) (i := (n : Int)) (by omega)
    have ost := op3_s g (i := (n : Int)) (by omega)
    have b1 := hs3 ((n : Int) + 1) (by omega)
    have b2 := hsg ((n : Int) + 1) (by omega)
    rw [en1] at h19 h21 h22'
    rw [en, en1, e_Guess_listenOn_44]
    by_cases c : 0 < g n
    · rw [if_pos c] at ost
      have ep : p1_ (g n) = 1 := by unfold p1_; rw [if_pos c]
      have hx2 := ih (mset (mset (mset t 19 (12 * q + 3 * x + n) (g n)) 21 (4 * q + x) n) 22 q (t 22 q + 1)) (g n) (by omega) (fun c' i y1 y2 y3 y4 => by rw [mset_ne (by omega), mset_ne (by omega), mset_ne (by omega)]; exact hf c' i y1 y2 y3 y4) (by rw [mset_ne (by omega), mset_ne (by omega), mset_ne (by omega)]; exact h20) (fun j hj => by
        rw [mset_ne (by omega), mset_ne (by omega)]
        by_cases e : j = n
        · rw [e, mset_eq rfl rfl]
        · rw [mset_ne (by omega)]; exact h19 j (by omega)) (by rw [mset_ne (by omega), mset_eq rfl rfl, ost]) (by rw [mset_eq rfl rfl, h22', sp]; show _ = _ + (p1_ (g n) + _); rw [ep]; omega)
      rw [sst, show g n + s3 g ((n : Int) + 1) = s3 g ((n : Int) + 1) + g n by omega, show (n : Int) - 1 = n + -1 by omega] at hx2
      simp (disch := first | assumption | omega) only [rn, wk, al, wr_e, td_e, tm_e, mset_eq, mset_ne, if_pos, if_neg, Int.reduceAdd, Int.reduceSub, Int.reduceMul, Int.reduceNeg, Int.reduceLT, Int.reduceLE, Int.reduceEq, Int.cast_ofNat_Int, eq_self, and_true, true_and, ite_self, true_or, or_true, false_or, or_false, and_false, false_and, not_true_eq_false, not_false_eq_true, if_true, if_false, e_Guess_listenOn_0, e_Guess_listenOn_19, e_Guess_listenOn_108, e_Guess_listenOn_114, q_lossOf, ri, e12]
      exact hx2
    · rw [if_neg c] at ost
      have ep : p1_ (g n) = 0 := by unfold p1_; rw [if_neg c]
      have hx2 := ih (mset t 19 (12 * q + 3 * x + n) (g n)) (g n) (by omega) (fun c' i y1 y2 y3 y4 => by rw [mset_ne (by omega)]; exact hf c' i y1 y2 y3 y4) (by rw [mset_ne (by omega)]; exact h20) (fun j hj => by
        by_cases e : j = n
        · rw [e, mset_eq rfl rfl]
        · rw [mset_ne (by omega)]; exact h19 j (by omega)) (by rw [mset_ne (by omega), ost]; exact h21) (by rw [mset_ne (by omega), h22', sp]; show _ = _ + (p1_ (g n) + _); rw [ep]; omega)
      rw [sst, show g n + s3 g ((n : Int) + 1) = s3 g ((n : Int) + 1) + g n by omega, show (n : Int) - 1 = n + -1 by omega] at hx2
      simp (disch := first | assumption | omega) only [rn, wk, al, wr_e, td_e, tm_e, mset_eq, mset_ne, if_pos, if_neg, Int.reduceAdd, Int.reduceSub, Int.reduceMul, Int.reduceNeg, Int.reduceLT, Int.reduceLE, Int.reduceEq, Int.cast_ofNat_Int, eq_self, and_true, true_and, ite_self, true_or, or_true, false_or, or_false, and_false, false_and, not_true_eq_false, not_false_eq_true, if_true, if_false, e_Guess_listenOn_0, e_Guess_listenOn_19, e_Guess_listenOn_108, e_Guess_listenOn_114, q_lossOf, ri, e12]
      exact hx2
theorem opn_op3 (A : Mem) (q x : Int) : opn A q x = op3 (aP A q (A 5 x)) 0 := by
  unfold opn op3
  simp only [Int.le_refl, true_and]
  split
  · rfl
  · simp only [show (0 : Int) ≤ 1 by omega, show (0 : Int) ≤ 2 by omega, true_and]
theorem q_listenOn (d : Nat) (A u : Mem) (hv : VB A) (hA : ∀ k, 0 ≤ k → k < 20 → win u 37 k = A k) (q x : Int) (hq : vQ A q) (hx : 0 ≤ x ∧ x < A 0 3) (h21 : u 21 (4 * q + x) = -1) (h22 : 0 ≤ u 22 q ∧ u 22 q ≤ 100) : CV (d + 3) 143 [14, 37, q, x] u fun r t => r = aS A q (A 5 x) ∧ Fgu u t q x ∧ gl1 A t q x ∧ t 22 q = u 22 q + brx A q x := by
  have h1 := hv.1
  unfold VC at h1
  have hc := vQ_c hq
  have hq0 := hq.1
  have hq1 := hq.2.1
  have hp := hv.2.1 x hx
  have hd := (dP_ok hv hc hp).2
  have hvu : VB (win u 37) := VB_congr (fun k a b _ => hA k a b) hv
  have e0 : ∀ i, u 37 i = A 0 i := fun i => by rw [← hA 0 (by omega) (by omega)]; rfl
  have e5 : ∀ i, u 42 i = A 5 i := fun i => by rw [← hA 5 (by omega) (by omega)]; rfl
  have g8 : ∀ j, u 45 j = A 8 j := fun j => by rw [← hA 8 (by omega) (by omega)]; rfl
  have qd := q_distanceToSlate (d + 0) isH37 (q / 3) x u hvu (by rw [e0]; exact hc) (by rw [e0]; exact hx)
  simp only [Int.reduceAdd, e5] at qd
  rw [dP_congr (A := A) (fun k a b _ => hA k a b)] at qd
  apply c_Guess_listenOn
  by_cases cl : dP A (q / 3) (A 5 x) < 10000000
  · have hd0 : 0 ≤ dP A (q / 3) (A 5 x) := by rcases hd with h | ⟨a, b, h⟩ <;> omega
    have e4 : q * 4 = 4 * q := by omega
    have hx2 := lp_lo3 d u (aP A q (A 5 x)) q x (dP A (q / 3) (A 5 x)) (bP A q (A 5 x)) (by omega) (by omega) hd0 (fun i hi => aP_ok hv hq hp hi) h22 (fun t t8 i hi => by
      have hn := nb_ok hv hq hi
      have t8' : ∀ j, t 45 j = A 8 j := fun j => by rw [t8, g8]
      have q3 := q_amount d isH37 q i (dP A (q / 3) (A 5 x) % 1000) t (by omega) hi (by simp only [Int.reduceAdd]; rw [t8']; exact hn) (by omega)
      simp only [Int.reduceAdd, t8'] at q3
      have : aP A q (A 5 x) i = max 0 (A 8 (3 * q + i) - dP A (q / 3) (A 5 x) % 1000) := by unfold aP; rw [if_pos cl]
      rw [this]; exact q3) (fun r t => r = aS A q (A 5 x) ∧ Fgu u t q x ∧ gl1 A t q x ∧ t 22 q = u 22 q + brx A q x) (fun t a b c e f => ⟨by unfold s3 aS; simp, a, ⟨by rw [opn_op3]; exact e, fun _ => ⟨b, c⟩⟩, by rw [f]; unfold s3 brx; simp⟩) 3 (mset u 20 (4 * q + x) (bP A q (A 5 x))) 0 (by omega) (fun c i y1 y2 y3 y4 => by rw [mset_ne (by omega)]) (mset_eq rfl rfl) (fun j hj => by omega) (by rw [mset_ne (by omega), h21]; rfl) (by rw [mset_ne (by omega)]; show u 22 q = u 22 q + (0 + 0 + 0); omega)
    have es : s3 (aP A q (A 5 x)) ((3 : Nat) : Int) = 0 := rfl
    rw [es] at hx2
    have hbP : bP A q (A 5 x) = dP A (q / 3) (A 5 x) / 1000 := rfl
    rw [hbP] at hx2
    simp (disch := first | assumption | omega) only [rn, wk, al, wr_e, td_e, tm_e, mset_eq, mset_ne, if_pos, if_neg, Int.reduceAdd, Int.reduceSub, Int.reduceMul, Int.reduceNeg, Int.reduceLT, Int.reduceLE, Int.reduceEq, Int.cast_ofNat_Int, eq_self, and_true, true_and, ite_self, true_or, or_true, false_or, or_false, and_false, false_and, not_true_eq_false, not_false_eq_true, if_true, if_false, e_Guess_listenOn_0, e_Guess_listenOn_19, e_Guess_listenOn_108, e_Guess_listenOn_114, qd, e4, q_beatsOf]
    exact hx2
  · have ez : ∀ i, aP A q (A 5 x) i = 0 := fun i => by unfold aP; rw [if_neg cl]
    have e1 : opn A q x = -1 := by unfold opn; rw [ez, ez, ez]; rfl
    have e2 : brx A q x = 0 := by unfold brx; rw [ez, ez, ez]; rfl
    have e3 : aS A q (A 5 x) = 0 := by unfold aS; rw [ez, ez, ez]; rfl
    have hpost : (0 : Int) = aS A q (A 5 x) ∧ Fgu u u q x ∧ gl1 A u q x ∧ u 22 q = u 22 q + brx A q x := ⟨e3.symm, fun _ _ _ _ _ _ => rfl, ⟨by rw [h21, e1], fun h => absurd e1 h⟩, by rw [e2]; omega⟩
    rw [e_Guess_listenOn_0]
    simp (disch := first | assumption | omega) only [rn, wk, al, wr_e, td_e, tm_e, mset_eq, mset_ne, if_pos, if_neg, Int.reduceAdd, Int.reduceSub, Int.reduceMul, Int.reduceNeg, Int.reduceLT, Int.reduceLE, Int.reduceEq, Int.cast_ofNat_Int, eq_self, and_true, true_and, ite_self, true_or, or_true, false_or, or_false, and_false, false_and, not_true_eq_false, not_false_eq_true, if_true, if_false, qd]
    exact hpost
