/-! ===== H2: trays ===== -/
theorem keep_FA {s t : Mem} (hi : Inv s) (h0 : ∀ i, 1 ≤ i → i ≤ 4 → t 0 i = s 0 i) (h1 : ∀ i, t 1 i = s 1 i) (h7 : ∀ i, 8 ≤ i → i ≤ 9 → t 7 i = s 7 i) (h8 : ∀ i, i = 3 ∨ i = 4 ∨ i = 16 ∨ i = 17 ∨ i = 46 ∨ i = 47 → t 137 i = s 137 i) (h9 : ∀ i, t 154 i = s 154 i) : FA t := by
  have h := hi.2.1
  unfold FA at h ⊢
  rw [h0 1 (by omega) (by omega), h0 2 (by omega) (by omega), h0 3 (by omega) (by omega), h0 4 (by omega) (by omega), h7 8 (by omega) (by omega), h7 9 (by omega) (by omega), h8 3 (by omega), h8 4 (by omega), h8 16 (by omega), h8 17 (by omega), h8 46 (by omega), h8 47 (by omega)]
  simp only [h1, h9]
  exact h
theorem keep_TR {s t : Mem} (hi : Inv s) (h : ∀ c i, (4 ≤ c ∧ c ≤ 6) ∨ (140 ≤ c ∧ c ≤ 142) → t c i = s c i) : TR t := by
  intro k hk
  rw [h 4 k (by omega), h 141 k (by omega), h 140 k (by omega), h 5 k (by omega)]
  rcases hi.2.2.1 k hk with q | ⟨q1, q2, q3, q4, q5⟩
  · exact Or.inl q
  · refine Or.inr ⟨q1, q2, q3, q4, ?_⟩
    intro i b
    rw [h 142 _ (by omega), h 6 _ (by omega)]
    exact q5 i b
theorem keep_TP {s t : Mem} (hi : Inv s) (h1 : t 7 1 = s 7 1) (h2 : t 137 10 = s 137 10) (h3 : ∀ i, t 8 i = s 8 i) (h4 : ∀ i, t 143 i = s 143 i) : TP t := by
  have h := hi.2.2.2.1
  unfold TP at h ⊢
  simp only [h1, h2, h3, h4]
  exact h
theorem keep_HR {s t : Mem} (hi : Inv s) (h1 : ∀ c i, 37 ≤ c ∧ c ≤ 56 → t c i = s c i) (h2 : ∀ i, 0 ≤ i ∧ i < 868 → t 138 i = s 138 i) (h3 : ∀ i, 0 ≤ i ∧ i < 16 → t 139 i = s 139 i) : HR (win t 37) (t 138) (t 139) := by
  refine HR_congr ?_ ?_ ?_ hi.2.2.2.2.1
  · intro k i a b; exact h1 _ _ (by omega)
  · intro i a b; exact h2 _ (by omega)
  · intro i a b; exact h3 _ (by omega)
theorem keep_MK {s t : Mem} (hi : Inv s) (h0 : t 0 3 = s 0 3) (h1 : ∀ c i, 77 ≤ c ∧ c ≤ 136 → t c i = s c i) (h2 : ∀ i, 868 ≤ i ∧ i < 3472 → t 138 i = s 138 i) (h3 : ∀ i, 16 ≤ i ∧ i < 64 → t 139 i = s 139 i) : ∀ k, 0 ≤ k ∧ k < t 0 3 → HR (win t (77 + 20 * k)) (fun i => t 138 (868 * (k + 1) + i)) (fun i => t 139 (16 * (k + 1) + i)) := by
  intro k a
  rw [h0] at a
  have f3 := hi.2.1.2.2.1
  refine HR_congr ?_ ?_ ?_ (hi.2.2.2.2.2 k a)
  · intro j i a b; exact h1 _ _ (by omega)
  · intro i a b; exact h2 _ (by omega)
  · intro i a b; exact h3 _ (by omega)
theorem zf_in {s : Mem} {a lo hi b j : Int} (h1 : b = a) (h2 : lo ≤ j ∧ j < hi) : zf s a lo hi b j = 0 := by unfold zf; rw [if_pos h1, if_pos h2]
theorem zf_out {s : Mem} {a lo hi b j : Int} (h : ¬ (b = a ∧ lo ≤ j ∧ j < hi)) : zf s a lo hi b j = s b j := by
  unfold zf
  by_cases h1 : b = a
  · rw [if_pos h1, if_neg (fun h2 => h ⟨h1, h2⟩), h1]
  · rw [if_neg h1]
theorem ak_tray (d : Nat) (t so ma : Int) : Ak (d + 30) 3 216 [t, so, ma] := by
  apply ak_of; intro s hi
  by_cases c1 : trOk t so ma
  · refine CV_of (q_Mtray_ok _ t so ma c1 s) ?_
    refine CV_of (q_Rtray_ok _ t so ma c1 _) ?_
    refine ⟨rfl, ?_⟩
    obtain ⟨c1, c2, c3⟩ := c1
    have K : ∀ x : Prop, x → x := fun _ h => h
    refine ⟨by simp (disch := omega) only [mset_eq, mset_ne, zf_out], keep_FA hi ?_ ?_ ?_ ?_ ?_, ?_, keep_TP hi ?_ ?_ ?_ ?_, keep_HR hi ?_ ?_ ?_, keep_MK hi ?_ ?_ ?_ ?_⟩
    rotate_left 5
    · intro t' ht'
      have htr := hi.2.2.1 t' ht'
      by_cases e : t' = t
      · subst e
        refine Or.inr ?_
        simp (disch := omega) only [mset_eq, mset_ne, zf_out, zf_in]
        refine ⟨c2, trivial, trivial, c3, ?_⟩
        intro i h
        simp (disch := omega) only [mset_eq, mset_ne, zf_out, zf_in]
      · simp (disch := omega) only [mset_ne, zf_out]
        rcases htr with q | ⟨q1, q2, q3, q4, q5⟩
        · exact Or.inl q
        · refine Or.inr ⟨q1, q2, q3, q4, ?_⟩
          intro i b
          simp (disch := omega) only [mset_ne, zf_out]
          exact q5 i b
    all_goals
      intros
      simp (disch := omega) only [mset_ne, zf_out]
  · refine CV_of (q_Mtray_no _ t so ma c1 s) ?_
    refine CV_of (q_Rtray_no _ t so ma c1 _) ?_
    exact ⟨rfl, inv_st 1 hi⟩
theorem pl_eq {s t : Mem} (hi : Inv s) (h : ∀ i, t 141 i = s 141 i) (x p : Int) : plR t x p = plM s x p := by
  unfold plR plM
  by_cases c1 : 0 ≤ x ∧ x < 4
  · rw [if_pos c1, if_pos c1, h]
    rcases hi.2.2.1 x c1 with ⟨q1, q2⟩ | ⟨q1, q2, q3, q4, q5⟩
    · rw [if_pos q1, if_pos q2]
    · rw [if_neg (by omega : ¬ s 141 x = -1), if_neg (by omega : ¬ s 4 x = -1), q3]
  · rw [if_neg c1, if_neg c1]
theorem ak_write (d : Nat) (x p v : Int) : Ak (d + 30) 8 219 [x, p, v] := by
  apply ak_of; intro s hi
  by_cases c1 : plM s x p = 0
  · have hx : (0 ≤ x ∧ x < 4) ∧ ¬ s 4 x = -1 ∧ 0 ≤ p ∧ p < s 5 x := by
      unfold plM at c1
      by_cases h1 : 0 ≤ x ∧ x < 4
      · rw [if_pos h1] at c1
        by_cases h2 : s 4 x = -1
        · rw [if_pos h2] at c1; omega
        · rw [if_neg h2] at c1
          by_cases h3 : 0 ≤ p ∧ p < s 5 x
          · exact ⟨h1, h2, h3⟩
          · rw [if_neg h3] at c1; omega
      · rw [if_neg h1] at c1; omega
    obtain ⟨hx, h4, hp⟩ := hx
    rcases hi.2.2.1 x hx with q | ⟨q1, q2, q3, q4, q5⟩
    · exact absurd q.1 h4
    · refine CV_of (q_Mwrite_ok _ x p v s c1 (by omega)) ?_
      refine CV_of (q_Rwrite_ok _ x p v _ (by rw [pl_eq hi (by intro i; simp (disch := omega) only [mset_ne])]; exact c1) (by simp (disch := omega) only [mset_ne]; omega)) ?_
      simp (disch := omega) only [mset_ne, q2]
      refine ⟨trivial, ?_⟩
      refine ⟨by simp (disch := omega) only [mset_eq, mset_ne], keep_FA hi ?_ ?_ ?_ ?_ ?_, ?_, keep_TP hi ?_ ?_ ?_ ?_, keep_HR hi ?_ ?_ ?_, keep_MK hi ?_ ?_ ?_ ?_⟩
      rotate_left 5
      · intro t' ht'
        have htr := hi.2.2.1 t' ht'
        simp (disch := omega) only [mset_ne]
        rcases htr with q | ⟨q1, q2, q3, q4, q5⟩
        · exact Or.inl q
        · refine Or.inr ⟨q1, q2, q3, q4, ?_⟩
          intro i b
          by_cases e : t' = x ∧ i = p
          · obtain ⟨rfl, rfl⟩ := e
            simp (disch := omega) only [mset_ne, mset_eq]
          · simp (disch := omega) only [mset_ne]
            exact q5 i b
      all_goals
        intros
        simp (disch := omega) only [mset_ne]
  · refine CV_of (q_Mwrite_no _ x p v s c1) ?_
    have e : plR (mset s 0 0 (plM s x p)) x p = plM s x p := pl_eq hi (by intro i; simp (disch := omega) only [mset_ne]) x p
    refine CV_of (q_Rwrite_no _ x p v _ (by rw [e]; exact c1)) ?_
    rw [e]
    exact ⟨rfl, inv_st _ hi⟩
theorem ak_read (d : Nat) (x p : Int) : Ak (d + 30) 13 222 [x, p] := by
  apply ak_of; intro s hi
  have e : ∀ v, plR (mset s 0 0 v) x p = plM s x p := fun v => pl_eq hi (by intro i; simp (disch := omega) only [mset_ne]) x p
  by_cases c1 : plM s x p = 0
  · have c2 : plR s x p = 0 := by rw [pl_eq hi (fun _ => rfl)]; exact c1
    obtain ⟨hx, h4, hp⟩ := plR_ok c2
    rcases hi.2.2.1 x hx with q | ⟨q1, q2, q3, q4, q5⟩
    · exact absurd q.2 h4
    · refine CV_of (q_Mread_ok _ x p s c1 (by omega)) ?_
      refine CV_of (q_Rread_ok _ x p _ (by rw [e]; exact c1) (by simp (disch := omega) only [mset_ne]; omega)) ?_
      simp (disch := omega) only [mset_ne]
      refine ⟨?_, inv_st 0 hi⟩
      rw [q5 p (by omega), Int.mul_comm]
  · refine CV_of (q_Mread_no _ x p s c1) ?_
    refine CV_of (q_Rread_no _ x p _ (by rw [e]; exact c1)) ?_
    rw [e]
    exact ⟨rfl, inv_st _ hi⟩
