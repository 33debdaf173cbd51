/-! ===== H2: the class notes an answer ===== -/
theorem lp_sc9 (d : Nat) (s : Mem) (g : Int → Int) (m i v : Int) (hm : m ≤ 4) (hi : 0 ≤ i ∧ i < m) (hv : s 16 i = v) (hg : ∀ a b, 0 ≤ a → a < b → b < i → g a < g b) (Q : Int → Mem → Prop) (hQ : ∀ t at_, (0 ≤ at_ ∧ at_ ≤ i) → (∀ c j, c ≠ 17 → t c j = s c j) → (∀ j, 0 ≤ j ∧ j < at_ → t 17 j = g j) → t 17 at_ = v → (∀ j, at_ < j ∧ j ≤ i → t 17 j = g (j - 1)) → (∀ j, at_ ≤ j ∧ j < i → v < g j) → (∀ j, 0 ≤ j ∧ j < at_ → g j ≤ v) → EV d o_Guess_sortChosen 2 [] [14, m, i + 1, at_] t Q) : ∀ (n : Nat) (t : Mem), (n : Int) ≤ i → (∀ c j, c ≠ 17 → t c j = s c j) → (∀ j, 0 ≤ j ∧ j < (n : Int) → t 17 j = g j) → (∀ j, (n : Int) < j ∧ j ≤ i → t 17 j = g (j - 1)) → (∀ j, (n : Int) ≤ j ∧ j < i → v < g j) → EV d o_Guess_sortChosen 9 [] [14, m, i, n] t Q := by
  intro n
  induction n with
  | zero =>
    intro t hn hf h1 h2 h3
    have e16 : t 16 i = v := by rw [hf _ _ (by omega)]; exact hv
    have hq := hQ (mset t 17 0 v) 0 (by omega) (fun c j h => by rw [mset_ne (by omega)]; exact hf c j h) (fun j hj => by omega) (mset_eq rfl rfl) (fun j hj => by rw [mset_ne (by omega)]; exact h2 j (by omega)) (fun j hj => h3 j (by omega)) (fun j hj => by omega)
    rw [e_Guess_sortChosen_9]
    simp (disch := first | assumption | omega) only [rn, wk, al, wr_e, td_e, tm_e, mset_eq, mset_ne, if_pos, if_neg, Int.reduceAdd, Int.reduceSub, Int.reduceMul, Int.reduceNeg, Int.reduceLT, Int.reduceLE, Int.reduceEq, Int.cast_ofNat_Int, eq_self, and_true, true_and, ite_self, true_or, or_true, false_or, or_false, and_false, false_and, not_true_eq_false, not_false_eq_true, if_true, if_false, e_Guess_sortChosen_0, e_Guess_sortChosen_50, e_Guess_sortChosen_68, e16]
    exact hq
  | succ n ih =>
    intro t hn hf h1 h2 h3
    have en : ((n + 1 : Nat) : Int) = (n : Int) + 1 := by omega
    rw [en] at *
    have e16 : t 16 i = v := by rw [hf _ _ (by omega)]; exact hv
    have e17 := h1 n (by omega)
    have em : (n : Int) + 1 - 1 = n := by omega
    rw [e_Guess_sortChosen_9]
    by_cases c : v < g n
    · have hx := ih (mset t 17 ((n : Int) + 1) (g n)) (by omega) (fun c j h => by rw [mset_ne (by omega)]; exact hf c j h) (fun j hj => by rw [mset_ne (by omega)]; exact h1 j (by omega)) (fun j hj => by
        by_cases e : j = (n : Int) + 1
        · rw [e, mset_eq rfl rfl, em]
        · rw [mset_ne (by omega)]; exact h2 j (by omega)) (fun j hj => by
        by_cases e : j = (n : Int)
        · rw [e]; exact c
        · exact h3 j (by omega))
      simp (disch := first | assumption | omega) only [rn, wk, al, wr_e, td_e, tm_e, mset_eq, mset_ne, if_pos, if_neg, Int.reduceAdd, Int.reduceSub, Int.reduceMul, Int.reduceNeg, Int.reduceLT, Int.reduceLE, Int.reduceEq, Int.cast_ofNat_Int, eq_self, and_true, true_and, ite_self, true_or, or_true, false_or, or_false, and_false, false_and, not_true_eq_false, not_false_eq_true, if_true, if_false, e16, em, e17]
      have e2 : (n : Int) + 1 + -1 = n := by omega
      rw [e2]
      exact hx
    · have hq := hQ (mset t 17 ((n : Int) + 1) v) ((n : Int) + 1) (by omega) (fun c j h => by rw [mset_ne (by omega)]; exact hf c j h) (fun j hj => by rw [mset_ne (by omega)]; exact h1 j (by omega)) (mset_eq rfl rfl) (fun j hj => by rw [mset_ne (by omega)]; exact h2 j (by omega)) (fun j hj => h3 j (by omega)) (fun j hj => by
        by_cases e : j = (n : Int)
        · rw [e]; omega
        · have := hg j n (by omega) (by omega) (by omega); omega)
      simp (disch := first | assumption | omega) only [rn, wk, al, wr_e, td_e, tm_e, mset_eq, mset_ne, if_pos, if_neg, Int.reduceAdd, Int.reduceSub, Int.reduceMul, Int.reduceNeg, Int.reduceLT, Int.reduceLE, Int.reduceEq, Int.cast_ofNat_Int, eq_self, and_true, true_and, ite_self, true_or, or_true, false_or, or_false, and_false, false_and, not_true_eq_false, not_false_eq_true, if_true, if_false, e_Guess_sortChosen_0, e_Guess_sortChosen_50, e_Guess_sortChosen_68, e16, em, e17]
      exact hq
def sorts (s t : Mem) (m : Int) : Prop := (∀ i j, 0 ≤ i → i < j → j < m → t 17 i < t 17 j) ∧ ∀ v, (∃ j, (0 ≤ j ∧ j < m) ∧ t 17 j = v) ↔ ∃ j, (0 ≤ j ∧ j < m) ∧ s 16 j = v
theorem lp_sc1 (d : Nat) (s : Mem) (m : Int) (hm : 0 ≤ m ∧ m ≤ 4) (hd : ∀ i j, 0 ≤ i → i < j → j < m → s 16 i ≠ s 16 j) (Q : Int → Mem → Prop) (hQ : ∀ t, (∀ c j, c ≠ 17 → t c j = s c j) → sorts s t m → Q 0 t) : ∀ (n : Nat) (i z : Int) (t : Mem), 0 ≤ i → i + n = m → (∀ c j, c ≠ 17 → t c j = s c j) → sorts s t i → EV d o_Guess_sortChosen 2 [] [14, m, i, z] t Q := by
  intro n
  induction n with
  | zero =>
    intro i z t h0 hi hf hs
    have ei : i = m := by omega
    subst ei
    have hq := hQ t hf hs
    rw [e_Guess_sortChosen_2]
    simp (disch := first | assumption | omega) only [rn, wk, al, wr_e, td_e, tm_e, mset_eq, mset_ne, if_pos, if_neg, Int.reduceAdd, Int.reduceSub, Int.reduceMul, Int.reduceNeg, Int.reduceLT, Int.reduceLE, Int.reduceEq, Int.cast_ofNat_Int, eq_self, and_true, true_and, ite_self, true_or, or_true, false_or, or_false, and_false, false_and, not_true_eq_false, not_false_eq_true, if_true, if_false, e_Guess_sortChosen_0, e_Guess_sortChosen_50, e_Guess_sortChosen_68]
    exact hq
  | succ n ih =>
    intro i z t h0 hi hf hs
    obtain ⟨N, hN⟩ : ∃ N : Nat, (N : Int) = i := ⟨i.toNat, by omega⟩
    have hx := lp_sc9 d s (t 17) m i (s 16 i) hm.2 (by omega) rfl hs.1 Q (fun t' a ha f h1 h2 h3 h4 h5 => by
      refine ih (i + 1) a t' (by omega) (by omega) f ⟨fun p q hp hpq hq => ?_, fun v => ⟨?_, ?_⟩⟩
      · have hne : ∀ j, 0 ≤ j ∧ j < i → t 17 j ≠ s 16 i := fun j hj he => by
          obtain ⟨j', hj', e'⟩ := (hs.2 (t 17 j)).1 ⟨j, hj, rfl⟩
          exact hd j' i (by omega) (by omega) (by omega) (by rw [e', he])
        by_cases c1 : q < a
        · rw [h1 p (by omega), h1 q (by omega)]; exact hs.1 p q hp hpq (by omega)
        · by_cases c2 : q = a
          · rw [c2, h2, h1 p (by omega)]
            have := h5 p (by omega)
            have := hne p (by omega)
            omega
          · rw [h3 q (by omega)]
            by_cases c3 : p < a
            · rw [h1 p (by omega)]; exact hs.1 p (q - 1) hp (by omega) (by omega)
            · by_cases c4 : p = a
              · rw [c4, h2]; exact h4 (q - 1) (by omega)
              · rw [h3 p (by omega)]; exact hs.1 (p - 1) (q - 1) (by omega) (by omega) (by omega)
      · rintro ⟨j, hj, e⟩
        by_cases c1 : j < a
        · rw [h1 j (by omega)] at e
          obtain ⟨j', hj', e'⟩ := (hs.2 v).1 ⟨j, by omega, e⟩
          exact ⟨j', by omega, e'⟩
        · by_cases c2 : j = a
          · rw [c2, h2] at e
            exact ⟨i, by omega, e⟩
          · rw [h3 j (by omega)] at e
            obtain ⟨j', hj', e'⟩ := (hs.2 v).1 ⟨j - 1, by omega, e⟩
            exact ⟨j', by omega, e'⟩
      · rintro ⟨j, hj, e⟩
        by_cases c : j = i
        · rw [c] at e
          exact ⟨a, by omega, by rw [h2]; exact e⟩
        · obtain ⟨j', hj', e'⟩ := (hs.2 v).2 ⟨j, by omega, e⟩
          by_cases c1 : j' < a
          · exact ⟨j', by omega, by rw [h1 j' (by omega)]; exact e'⟩
          · exact ⟨j' + 1, by omega, by rw [h3 (j' + 1) (by omega), show j' + 1 - 1 = j' by omega]; exact e'⟩) N t (by omega) hf (fun j hj => rfl) (fun j hj => by omega) (fun j hj => by omega)
    rw [hN] at hx
    rw [e_Guess_sortChosen_2]
    simp (disch := first | assumption | omega) only [rn, wk, al, wr_e, td_e, tm_e, mset_eq, mset_ne, if_pos, if_neg, Int.reduceAdd, Int.reduceSub, Int.reduceMul, Int.reduceNeg, Int.reduceLT, Int.reduceLE, Int.reduceEq, Int.cast_ofNat_Int, eq_self, and_true, true_and, ite_self, true_or, or_true, false_or, or_false, and_false, false_and, not_true_eq_false, not_false_eq_true, if_true, if_false]
    exact hx
theorem q_sortChosen (d : Nat) (s : Mem) (m : Int) (hm : 0 ≤ m ∧ m ≤ 4) (hd : ∀ i j, 0 ≤ i → i < j → j < m → s 16 i ≠ s 16 j) : CV (d + 1) 146 [14, m] s fun _ t => (∀ c j, c ≠ 17 → t c j = s c j) ∧ sorts s t m := by
  apply c_Guess_sortChosen
  have hx := lp_sc1 d s m hm hd (fun _ t => (∀ c j, c ≠ 17 → t c j = s c j) ∧ sorts s t m) (fun t a b => ⟨a, b⟩) m.toNat 0 0 s (by omega) (by omega) (fun _ _ _ => rfl) ⟨fun i j a b c => by omega, fun v => ⟨fun ⟨j, hj, _⟩ => by omega, fun ⟨j, hj, _⟩ => by omega⟩⟩
  simp (disch := first | assumption | omega) only [rn, wk, al, wr_e, td_e, tm_e, mset_eq, mset_ne, if_pos, if_neg, Int.reduceAdd, Int.reduceSub, Int.reduceMul, Int.reduceNeg, Int.reduceLT, Int.reduceLE, Int.reduceEq, Int.cast_ofNat_Int, eq_self, and_true, true_and, ite_self, true_or, or_true, false_or, or_false, and_false, false_and, not_true_eq_false, not_false_eq_true, if_true, if_false, e_Guess_sortChosen_0, e_Guess_sortChosen_50, e_Guess_sortChosen_68]
  exact hx
theorem q_comesFirst (d : Nat) (s : Mem) (m : Int) (hm : 0 ≤ m ∧ m ≤ 4) (hb : 0 ≤ s 14 3 ∧ s 14 3 ≤ 4) : sem (d + 1) 147 [14, m] s = some (if llt (tl (s 17) 0 m.toNat) (tl (s 15) 0 (s 14 3).toNat) = true then 1 else 0, s) := by
  have lp : ∀ (n k : Nat) (i : Int), 0 ≤ i → i + n = m → i + k = s 14 3 → ∀ Q : Int → Mem → Prop, Q (if llt (tl (s 17) i n) (tl (s 15) i k) = true then 1 else 0) s → EV d o_Guess_comesFirst 2 [] [14, m, i] s Q := by
    intro n
    induction n with
    | zero =>
      intro k i h0 hi hk Q hq
      rw [e_Guess_comesFirst_2]
      cases k with
      | zero =>
        rw [if_neg (by simp [tl, llt])] at hq
        simp (disch := first | assumption | omega) only [rn, wk, al, wr_e, td_e, tm_e, mset_eq, mset_ne, if_pos, if_neg, Int.reduceAdd, Int.reduceSub, Int.reduceMul, Int.reduceNeg, Int.reduceLT, Int.reduceLE, Int.reduceEq, Int.cast_ofNat_Int, eq_self, and_true, true_and, ite_self, true_or, or_true, false_or, or_false, and_false, false_and, not_true_eq_false, not_false_eq_true, if_true, if_false, e_Guess_comesFirst_0, e_Guess_comesFirst_49, e_Guess_comesFirst_50, e_Guess_comesFirst_51, e_Guess_comesFirst_57, e_Guess_comesFirst_69, e_Guess_comesFirst_70]
        exact hq
      | succ k =>
        rw [if_pos (by simp [tl, llt])] at hq
        simp (disch := first | assumption | omega) only [rn, wk, al, wr_e, td_e, tm_e, mset_eq, mset_ne, if_pos, if_neg, Int.reduceAdd, Int.reduceSub, Int.reduceMul, Int.reduceNeg, Int.reduceLT, Int.reduceLE, Int.reduceEq, Int.cast_ofNat_Int, eq_self, and_true, true_and, ite_self, true_or, or_true, false_or, or_false, and_false, false_and, not_true_eq_false, not_false_eq_true, if_true, if_false, e_Guess_comesFirst_0, e_Guess_comesFirst_49, e_Guess_comesFirst_50, e_Guess_comesFirst_51, e_Guess_comesFirst_57, e_Guess_comesFirst_69, e_Guess_comesFirst_70]
        exact hq
    | succ n ih =>
      intro k i h0 hi hk Q hq
      rw [e_Guess_comesFirst_2]
      cases k with
      | zero =>
        rw [if_neg (by simp [tl, llt])] at hq
        simp (disch := first | assumption | omega) only [rn, wk, al, wr_e, td_e, tm_e, mset_eq, mset_ne, if_pos, if_neg, Int.reduceAdd, Int.reduceSub, Int.reduceMul, Int.reduceNeg, Int.reduceLT, Int.reduceLE, Int.reduceEq, Int.cast_ofNat_Int, eq_self, and_true, true_and, ite_self, true_or, or_true, false_or, or_false, and_false, false_and, not_true_eq_false, not_false_eq_true, if_true, if_false, e_Guess_comesFirst_0, e_Guess_comesFirst_49, e_Guess_comesFirst_50, e_Guess_comesFirst_51, e_Guess_comesFirst_57, e_Guess_comesFirst_69, e_Guess_comesFirst_70]
        exact hq
      | succ k =>
        have e : llt (tl (s 17) i (n + 1)) (tl (s 15) i (k + 1)) = if s 17 i < s 15 i then true else if s 17 i = s 15 i then llt (tl (s 17) (i + 1) n) (tl (s 15) (i + 1) k) else false := rfl
        rw [e] at hq
        by_cases c1 : s 17 i < s 15 i
        · rw [if_pos c1, if_pos rfl] at hq
          simp (disch := first | assumption | omega) only [rn, wk, al, wr_e, td_e, tm_e, mset_eq, mset_ne, if_pos, if_neg, Int.reduceAdd, Int.reduceSub, Int.reduceMul, Int.reduceNeg, Int.reduceLT, Int.reduceLE, Int.reduceEq, Int.cast_ofNat_Int, eq_self, and_true, true_and, ite_self, true_or, or_true, false_or, or_false, and_false, false_and, not_true_eq_false, not_false_eq_true, if_true, if_false, e_Guess_comesFirst_0, e_Guess_comesFirst_49, e_Guess_comesFirst_50, e_Guess_comesFirst_51, e_Guess_comesFirst_57, e_Guess_comesFirst_69, e_Guess_comesFirst_70]
          exact hq
        · rw [if_neg c1] at hq
          by_cases c2 : s 17 i = s 15 i
          · rw [if_pos c2] at hq
            have hx := ih k (i + 1) (by omega) (by omega) (by omega) Q hq
            simp (disch := first | assumption | omega) only [rn, wk, al, wr_e, td_e, tm_e, mset_eq, mset_ne, if_pos, if_neg, Int.reduceAdd, Int.reduceSub, Int.reduceMul, Int.reduceNeg, Int.reduceLT, Int.reduceLE, Int.reduceEq, Int.cast_ofNat_Int, eq_self, and_true, true_and, ite_self, true_or, or_true, false_or, or_false, and_false, false_and, not_true_eq_false, not_false_eq_true, if_true, if_false, e_Guess_comesFirst_0, e_Guess_comesFirst_49, e_Guess_comesFirst_50, e_Guess_comesFirst_51, e_Guess_comesFirst_57, e_Guess_comesFirst_69, e_Guess_comesFirst_70, c2]
            exact hx
          · rw [if_neg c2, if_neg (by decide)] at hq
            simp (disch := first | assumption | omega) only [rn, wk, al, wr_e, td_e, tm_e, mset_eq, mset_ne, if_pos, if_neg, Int.reduceAdd, Int.reduceSub, Int.reduceMul, Int.reduceNeg, Int.reduceLT, Int.reduceLE, Int.reduceEq, Int.cast_ofNat_Int, eq_self, and_true, true_and, ite_self, true_or, or_true, false_or, or_false, and_false, false_and, not_true_eq_false, not_false_eq_true, if_true, if_false, e_Guess_comesFirst_0, e_Guess_comesFirst_49, e_Guess_comesFirst_50, e_Guess_comesFirst_51, e_Guess_comesFirst_57, e_Guess_comesFirst_69, e_Guess_comesFirst_70]
            exact hq
  apply CV_eq; apply c_Guess_comesFirst
  have hx := lp m.toNat (s 14 3).toNat 0 (by omega) (by omega) (by omega) (fun r t => r = (if llt (tl (s 17) 0 m.toNat) (tl (s 15) 0 (s 14 3).toNat) = true then 1 else 0) ∧ t = s) ⟨rfl, rfl⟩
  simp (disch := first | assumption | omega) only [rn, wk, al, wr_e, td_e, tm_e, mset_eq, mset_ne, if_pos, if_neg, Int.reduceAdd, Int.reduceSub, Int.reduceMul, Int.reduceNeg, Int.reduceLT, Int.reduceLE, Int.reduceEq, Int.cast_ofNat_Int, eq_self, and_true, true_and, ite_self, true_or, or_true, false_or, or_false, and_false, false_and, not_true_eq_false, not_false_eq_true, if_true, if_false, e_Guess_comesFirst_0, e_Guess_comesFirst_49, e_Guess_comesFirst_50, e_Guess_comesFirst_51, e_Guess_comesFirst_57, e_Guess_comesFirst_69, e_Guess_comesFirst_70]
  exact hx
/-- the class's book of answers -/
def NtC (N : Ntt) (t : Mem) : Prop := t 14 0 = N.1 ∧ t 14 1 = N.2.1 ∧ t 14 2 = N.2.2.1 ∧ ((N.2.2.2 = none ∧ t 14 3 = -1) ∨ ∃ B, N.2.2.2 = some B ∧ (0 ≤ t 14 3 ∧ t 14 3 ≤ 4) ∧ B = tl (t 15) 0 (t 14 3).toNat)
def Fnt (s t : Mem) : Prop := ∀ c i, c ≠ 15 → c ≠ 17 → ¬ (c = 14 ∧ 0 ≤ i ∧ i ≤ 3) → t c i = s c i
theorem lp_nt (d : Nat) (m : Int) (so : Int) (Q : Int → Mem → Prop) (hm : m ≤ 4) : ∀ (n : Nat) (i : Int) (t : Mem), 0 ≤ i → i + n = m → t 14 6 = so → (-10 ≤ t 14 1 ∧ t 14 1 ≤ 2000000 + i) → (∀ a b, i ≤ a → a < b → b < m → t 17 a < t 17 b) → EV d o_Guess_note 63 [] [14, m, m] (mset t 14 1 (t 14 1 + (if so ∈ tl (t 17) i n then 1 else 0))) Q → EV d o_Guess_note 29 [] [14, m, i] t Q := by
  intro n
  induction n with
  | zero =>
    intro i t h0 hi h6 hb hs hq
    have ei : i = m := by omega
    subst ei
    rw [if_neg (by simp [tl]), Int.add_zero] at hq
    have em : mset t 14 1 (t 14 1) = t := by
      funext c i
      by_cases h : c = 14 ∧ i = 1
      · obtain ⟨rfl, rfl⟩ := h; rw [mset_eq rfl rfl]
      · rw [mset_ne (by omega)]
    rw [em] at hq
    rw [e_Guess_note_29]
    simp (disch := first | assumption | omega) only [rn, wk, al, wr_e, td_e, tm_e, mset_eq, mset_ne, if_pos, if_neg, Int.reduceAdd, Int.reduceSub, Int.reduceMul, Int.reduceNeg, Int.reduceLT, Int.reduceLE, Int.reduceEq, Int.cast_ofNat_Int, eq_self, and_true, true_and, ite_self, true_or, or_true, false_or, or_false, and_false, false_and, not_true_eq_false, not_false_eq_true, if_true, if_false]
    exact hq
  | succ n ih =>
    intro i t h0 hi h6 hb hs hq
    have et : tl (t 17) i (n + 1) = t 17 i :: tl (t 17) (i + 1) n := rfl
    rw [et] at hq
    rw [e_Guess_note_29]
    by_cases c : t 17 i = so
    · rw [if_pos (by rw [c]; exact List.mem_cons_self ..)] at hq
      have hn : so ∉ tl (t 17) (i + 1) n := fun h => by
        obtain ⟨j, a, b, e⟩ := (mem_tl n (i + 1)).1 h
        have := hs i j (by omega) (by omega) (by omega)
        omega
      have e17 : mset t 14 1 (t 14 1 + 1) 17 = t 17 := mset_nc (by omega)
      have em : ∀ a b, mset (mset t 14 1 a) 14 1 b = mset t 14 1 b := fun a b => by
        funext c i
        by_cases h : c = 14 ∧ i = 1
        · obtain ⟨rfl, rfl⟩ := h; rw [mset_eq rfl rfl, mset_eq rfl rfl]
        · rw [mset_ne (by omega), mset_ne (by omega), mset_ne (by omega)]
      have hx := ih (i + 1) (mset t 14 1 (t 14 1 + 1)) (by omega) (by omega) (by rw [mset_ne (by omega)]; exact h6) (by rw [mset_eq rfl rfl]; omega) (fun a b x y z => by rw [e17]; exact hs a b (by omega) y z) (by rw [e17, if_neg hn, mset_eq rfl rfl, em, Int.add_zero]; exact hq)
      simp (disch := first | assumption | omega) only [rn, wk, al, wr_e, td_e, tm_e, mset_eq, mset_ne, if_pos, if_neg, Int.reduceAdd, Int.reduceSub, Int.reduceMul, Int.reduceNeg, Int.reduceLT, Int.reduceLE, Int.reduceEq, Int.cast_ofNat_Int, eq_self, and_true, true_and, ite_self, true_or, or_true, false_or, or_false, and_false, false_and, not_true_eq_false, not_false_eq_true, if_true, if_false, e_Guess_note_0, e_Guess_note_57, e_Guess_note_79, e_Guess_note_98, h6, c]
      exact hx
    · have hx := ih (i + 1) t (by omega) (by omega) h6 (by omega) (fun a b x y z => hs a b (by omega) y z) (by
        by_cases c2 : so ∈ tl (t 17) (i + 1) n
        · rw [if_pos c2]; rw [if_pos (List.mem_cons_of_mem _ c2)] at hq; exact hq
        · rw [if_neg c2]; rw [if_neg (fun h => by
            rcases List.mem_cons.1 h with k | k
            · exact c k.symm
            · exact c2 k)] at hq; exact hq)
      simp (disch := first | assumption | omega) only [rn, wk, al, wr_e, td_e, tm_e, mset_eq, mset_ne, if_pos, if_neg, Int.reduceAdd, Int.reduceSub, Int.reduceMul, Int.reduceNeg, Int.reduceLT, Int.reduceLE, Int.reduceEq, Int.cast_ofNat_Int, eq_self, and_true, true_and, ite_self, true_or, or_true, false_or, or_false, and_false, false_and, not_true_eq_false, not_false_eq_true, if_true, if_false, e_Guess_note_0, e_Guess_note_57, e_Guess_note_79, e_Guess_note_98, h6]
      exact hx
theorem q_Gnote (d : Nat) (s : Mem) (N : Ntt) (so m : Int) (hm : 0 ≤ m ∧ m ≤ 4) (hd : ∀ i j, 0 ≤ i → i < j → j < m → s 16 i ≠ s 16 j) (h6 : s 14 6 = so) (hN : NtC N s) (hb : (0 ≤ N.1 ∧ N.1 ≤ 1000000) ∧ (0 ≤ N.2.1 ∧ N.2.1 ≤ 1000000) ∧ (0 ≤ N.2.2.1 ∧ N.2.2.1 ≤ 5)) : CV (d + 2) 145 [14, m] s fun _ t => Fnt s t ∧ sorts s t m ∧ NtC (nt so N (tl (t 17) 0 m.toNat)) t := by
  obtain ⟨n1', n2', n3, n4⟩ := hN
  apply c_Guess_note
  simp (disch := first | assumption | omega) only [rn, wk, al, wr_e, td_e, tm_e, mset_eq, mset_ne, if_pos, if_neg, Int.reduceAdd, Int.reduceSub, Int.reduceMul, Int.reduceNeg, Int.reduceLT, Int.reduceLE, Int.reduceEq, Int.cast_ofNat_Int, eq_self, and_true, true_and, ite_self, true_or, or_true, false_or, or_false, and_false, false_and, not_true_eq_false, not_false_eq_true, if_true, if_false, e_Guess_note_0, e_Guess_note_57, e_Guess_note_63, e_Guess_note_79, e_Guess_note_98, n1', n3]
  refine EV_call (CV_mono (q_sortChosen d _ m hm (fun i j a b c => by rw [mset_ne (by omega), mset_ne (by omega), mset_ne (by omega), mset_ne (by omega)]; exact hd i j a b c)) ?_)
  rintro r t ⟨t1, t2⟩
  have tS : sorts s t m := ⟨t2.1, fun v => by
    have := t2.2 v
    rw [this]
    constructor
    · rintro ⟨j, a, b⟩; exact ⟨j, a, by rw [mset_ne (by omega), mset_ne (by omega)] at b; exact b⟩
    · rintro ⟨j, a, b⟩; exact ⟨j, a, by rw [mset_ne (by omega), mset_ne (by omega)]; exact b⟩⟩
  have g0 : t 14 0 = N.1 + 1 := by rw [t1 _ _ (by omega), mset_ne (by omega), mset_eq rfl rfl]
  have g2 : t 14 2 = min N.2.2.1 m := by rw [t1 _ _ (by omega), mset_eq rfl rfl]
  have tf : ∀ c i, c ≠ 17 → ¬ (c = 14 ∧ (i = 0 ∨ i = 2)) → t c i = s c i := fun c i h1 h2 => by rw [t1 c i h1, mset_ne (by omega), mset_ne (by omega)]
  have g1 : t 14 1 = N.2.1 := by rw [tf _ _ (by omega) (by omega)]; exact n2'
  have g3 : t 14 3 = s 14 3 := tf _ _ (by omega) (by omega)
  have g15 : ∀ i, t 15 i = s 15 i := fun i => tf _ _ (by omega) (by omega)
  obtain ⟨hw, hwe⟩ : ∃ hw, hw = (if so ∈ tl (t 17) 0 m.toNat then (1 : Int) else 0) := ⟨_, rfl⟩
  have elen : ((tl (t 17) 0 m.toNat).length : Int) = m := by rw [tl_len]; omega
  simp (disch := first | assumption | omega) only [rn, wk, al, wr_e, td_e, tm_e, mset_eq, mset_ne, if_pos, if_neg, Int.reduceAdd, Int.reduceSub, Int.reduceMul, Int.reduceNeg, Int.reduceLT, Int.reduceLE, Int.reduceEq, Int.cast_ofNat_Int, eq_self, and_true, true_and, ite_self, true_or, or_true, false_or, or_false, and_false, false_and, not_true_eq_false, not_false_eq_true, if_true, if_false, e_Guess_note_0, e_Guess_note_57, e_Guess_note_63, e_Guess_note_79, e_Guess_note_98]
  refine lp_nt (d + 1) m so _ hm.2 m.toNat 0 t (by omega) (by omega) (by rw [tf _ _ (by omega) (by omega)]; exact h6) (by omega) (fun a b x y z => t2.1 a b x y z) ?_
  rw [← hwe]
  obtain ⟨w, hww⟩ : ∃ w, w = mset t 14 1 (t 14 1 + hw) := ⟨_, rfl⟩
  rw [← hww]
  have wf : ∀ c i, ¬ (c = 14 ∧ i = 1) → w c i = t c i := fun c i h => by rw [hww, mset_ne (by omega)]
  have w1 : w 14 1 = N.2.1 + hw := by rw [hww, mset_eq rfl rfl, g1]
  have w3 : w 14 3 = s 14 3 := by rw [wf _ _ (by omega), g3]
  have e17 : w 17 = t 17 := funext (fun i => wf _ _ (by omega))
  have e15 : w 15 = s 15 := funext (fun i => by rw [wf _ _ (by omega), g15])
  have wF : Fnt s w := fun c i h1 h2 h3 => by rw [wf c i (by omega), tf c i h2 (by omega)]
  have wS : sorts s w m := by unfold sorts; rw [e17]; exact tS
  -- the copy
  have copied : ∀ o : Option (List Int), o = some (tl (t 17) 0 m.toNat) → Fnt s (mcopy (mset w 14 3 m) 17 0 15 0 m) ∧ sorts s (mcopy (mset w 14 3 m) 17 0 15 0 m) m ∧ NtC (N.1 + 1, N.2.1 + hw, min N.2.2.1 m, o) (mcopy (mset w 14 3 m) 17 0 15 0 m) := by
    intro o ho
    have c17 : mcopy (mset w 14 3 m) 17 0 15 0 m 17 = t 17 := funext (fun i => by rw [mcopy_out (by omega), mset_ne (by omega), e17])
    refine ⟨fun c i h1 h2 h3 => by rw [mcopy_out (by omega), mset_ne (by omega)]; exact wF c i h1 h2 h3, by unfold sorts; rw [c17]; exact tS, by rw [mcopy_out (by omega), mset_ne (by omega), wf _ _ (by omega)]; exact g0, by rw [mcopy_out (by omega), mset_ne (by omega)]; exact w1, by rw [mcopy_out (by omega), mset_ne (by omega), wf _ _ (by omega)]; exact g2, Or.inr ⟨_, ho, by rw [mcopy_out (by omega), mset_eq rfl rfl]; exact hm, ?_⟩⟩
    rw [mcopy_out (by omega), mset_eq rfl rfl]
    apply tl_congr
    intro j a b
    rw [mcopy_in rfl (by omega), mset_ne (by omega), e17]; congr 1; omega
  have eN : ∀ y, mcopy (mset w 14 3 m) 17 0 15 0 m = y → tl (y 17) 0 m.toNat = tl (t 17) 0 m.toNat := fun y hy => by
    rw [← hy]
    apply tl_congr
    intro j a b
    rw [mcopy_out (by omega), mset_ne (by omega), e17]
  rcases n4 with ⟨o1, o2⟩ | ⟨B, o1, o2, o3⟩
  · have hp : Fnt s (mcopy (mset w 14 3 m) 17 0 15 0 m) ∧ sorts s (mcopy (mset w 14 3 m) 17 0 15 0 m) m ∧ NtC (nt so N (tl (mcopy (mset w 14 3 m) 17 0 15 0 m 17) 0 m.toNat)) (mcopy (mset w 14 3 m) 17 0 15 0 m) := by
      rw [eN _ rfl]
      have := copied (on_ N.2.2.2 (tl (t 17) 0 m.toNat)) (by rw [o1]; rfl)
      unfold nt
      rw [elen, ← hwe]
      exact this
    simp (disch := first | assumption | omega) only [rn, wk, al, wr_e, td_e, tm_e, mset_eq, mset_ne, if_pos, if_neg, Int.reduceAdd, Int.reduceSub, Int.reduceMul, Int.reduceNeg, Int.reduceLT, Int.reduceLE, Int.reduceEq, Int.cast_ofNat_Int, eq_self, and_true, true_and, ite_self, true_or, or_true, false_or, or_false, and_false, false_and, not_true_eq_false, not_false_eq_true, if_true, if_false, e_Guess_note_0, e_Guess_note_57, e_Guess_note_63, e_Guess_note_79, e_Guess_note_98, w3, o2]
    exact hp
  · have hcf := q_comesFirst d w m hm (by rw [w3]; exact o2)
    rw [e17, e15, w3, ← o3] at hcf
    by_cases cl : llt (tl (t 17) 0 m.toNat) B = true
    · rw [if_pos cl] at hcf
      have hp : Fnt s (mcopy (mset w 14 3 m) 17 0 15 0 m) ∧ sorts s (mcopy (mset w 14 3 m) 17 0 15 0 m) m ∧ NtC (nt so N (tl (mcopy (mset w 14 3 m) 17 0 15 0 m 17) 0 m.toNat)) (mcopy (mset w 14 3 m) 17 0 15 0 m) := by
        rw [eN _ rfl]
        have := copied (on_ N.2.2.2 (tl (t 17) 0 m.toNat)) (by rw [o1]; show some (mn_ B _) = _; unfold mn_; rw [if_pos cl])
        unfold nt
        rw [elen, ← hwe]
        exact this
      simp (disch := first | assumption | omega) only [rn, wk, al, wr_e, td_e, tm_e, mset_eq, mset_ne, if_pos, if_neg, Int.reduceAdd, Int.reduceSub, Int.reduceMul, Int.reduceNeg, Int.reduceLT, Int.reduceLE, Int.reduceEq, Int.cast_ofNat_Int, eq_self, and_true, true_and, ite_self, true_or, or_true, false_or, or_false, and_false, false_and, not_true_eq_false, not_false_eq_true, if_true, if_false, e_Guess_note_0, e_Guess_note_57, e_Guess_note_63, e_Guess_note_79, e_Guess_note_98, w3, hcf]
      exact hp
    · rw [if_neg cl] at hcf
      have hp : Fnt s w ∧ sorts s w m ∧ NtC (nt so N (tl (w 17) 0 m.toNat)) w := by
        refine ⟨wF, wS, ?_⟩
        rw [e17]
        unfold nt
        rw [elen, ← hwe]
        refine ⟨by rw [wf _ _ (by omega)]; exact g0, w1, by rw [wf _ _ (by omega)]; exact g2, Or.inr ⟨B, ?_, by rw [w3]; exact o2, by rw [w3, e15]; exact o3⟩⟩
        show on_ N.2.2.2 _ = some B
        rw [o1]; show some (mn_ B _) = _; unfold mn_; rw [if_neg cl]
      simp (disch := first | assumption | omega) only [rn, wk, al, wr_e, td_e, tm_e, mset_eq, mset_ne, if_pos, if_neg, Int.reduceAdd, Int.reduceSub, Int.reduceMul, Int.reduceNeg, Int.reduceLT, Int.reduceLE, Int.reduceEq, Int.cast_ofNat_Int, eq_self, and_true, true_and, ite_self, true_or, or_true, false_or, or_false, and_false, false_and, not_true_eq_false, not_false_eq_true, if_true, if_false, e_Guess_note_0, e_Guess_note_57, e_Guess_note_63, e_Guess_note_79, e_Guess_note_98, w3, hcf]
      exact hp
