/-! ===== H2: what stays when some cells change ===== -/
theorem keep_VC {s t : Mem} (hi : Inv s) (h0 : ∀ i, 0 ≤ i → i ≤ 6 → t 37 i = s 37 i) : VC (win t 37) := by
  have h := inv_c hi
  show (0 ≤ t 37 0 ∧ t 37 0 ≤ 16) ∧ (0 ≤ t 37 1 ∧ t 37 1 ≤ 7) ∧ (0 ≤ t 37 2 ∧ t 37 2 ≤ 10) ∧ (0 ≤ t 37 3 ∧ t 37 3 ≤ 4) ∧ (0 ≤ t 37 4 ∧ t 37 4 ≤ 5) ∧ (0 ≤ t 37 5 ∧ t 37 5 ≤ 8) ∧ (0 ≤ t 37 6 ∧ t 37 6 ≤ 1)
  rw [h0 0 (by omega) (by omega), h0 1 (by omega) (by omega), h0 2 (by omega) (by omega), h0 3 (by omega) (by omega), h0 4 (by omega) (by omega), h0 5 (by omega) (by omega), h0 6 (by omega) (by omega)]
  exact h
theorem keep_VW {s t : Mem} (hi : Inv s) (h1 : t 37 1 = s 37 1) (h2 : t 37 2 = s 37 2) (h3 : t 39 = s 39) (h4 : t 40 = s 40) (h5 : t 41 = s 41) : VW (win t 37) := by
  have h := inv_vw hi
  rw [← h1, ← h2, ← h3, ← h4, ← h5] at h
  exact h
theorem keep_VS {s t : Mem} (hi : Inv s) (h1 : t 37 1 = s 37 1) (h2 : t 37 3 = s 37 3) (h3 : t 42 = s 42) : VS (win t 37) := by
  have h := inv_vs hi
  rw [← h1, ← h2, ← h3] at h
  exact h
theorem keep_VL {s t : Mem} (hi : Inv s) (h1 : t 37 1 = s 37 1) (h2 : t 37 4 = s 37 4) (h3 : t 43 = s 43) (h4 : t 44 = s 44) (h5 : t 45 = s 45) : VL (win t 37) := by
  have h := inv_vl hi
  rw [← h1, ← h2, ← h3, ← h4, ← h5] at h
  exact h
theorem keep_VU {s t : Mem} (hi : Inv s) (h1 : t 37 3 = s 37 3) (h2 : t 37 6 = s 37 6) (h3 : t 47 = s 47) : VU (win t 37) := by
  have h := inv_vu hi
  rw [← h1, ← h2, ← h3] at h
  exact h
theorem keep_wk {s t : Mem} (h2 : t 37 2 = s 37 2) (h3 : t 39 = s 39) (h4 : t 40 = s 40) (h5 : t 41 = s 41) : ∀ n a b x y, wk_ (win t 37) n a b x y = wk_ (win s 37) n a b x y := by
  intro n
  induction n with
  | zero => intros; rfl
  | succ n ih =>
    intro a b x y
    show (∃ w c, (0 ≤ w ∧ w < t 37 2) ∧ ((t 39 (2 * w) = a ∧ t 39 (2 * w + 1) = c) ∨ (t 39 (2 * w) = c ∧ t 39 (2 * w + 1) = a)) ∧ wk_ (win t 37) n c b (x - t 40 w) (y - t 41 w)) = (∃ w c, (0 ≤ w ∧ w < s 37 2) ∧ ((s 39 (2 * w) = a ∧ s 39 (2 * w + 1) = c) ∨ (s 39 (2 * w) = c ∧ s 39 (2 * w + 1) = a)) ∧ wk_ (win s 37) n c b (x - s 40 w) (y - s 41 w))
    rw [h2, h3, h4, h5]
    simp only [ih]
theorem keep_VN {s t : Mem} (hi : Inv s) (h1 : t 37 1 = s 37 1) (h2 : t 37 2 = s 37 2) (h3 : t 39 = s 39) (h4 : t 40 = s 40) (h5 : t 41 = s 41) (h6 : t 48 = s 48) : VN (win t 37) := by
  have h : ∀ a b, 0 ≤ a ∧ a < s 37 1 → 0 ≤ b ∧ b < s 37 1 → (s 48 (7 * a + b) = 10000000 ∧ ∀ n x y, ¬ wk_ (win s 37) n a b x y) ∨ ∃ x y, dst (win s 37) a b x y ∧ s 48 (7 * a + b) = 1000 * x + y ∧ (0 ≤ x ∧ x ≤ 54) ∧ (0 ≤ y ∧ y ≤ 54) := hi.2.2.2.2.1.1.2.2.2.2.2.1
  have hk := keep_wk h2 h3 h4 h5
  have hd : ∀ a b x y, dst (win t 37) a b x y = dst (win s 37) a b x y := by
    intro a b x y; unfold dst; simp only [hk]
  show ∀ a b, 0 ≤ a ∧ a < t 37 1 → 0 ≤ b ∧ b < t 37 1 → (t 48 (7 * a + b) = 10000000 ∧ ∀ n x y, ¬ wk_ (win t 37) n a b x y) ∨ ∃ x y, dst (win t 37) a b x y ∧ t 48 (7 * a + b) = 1000 * x + y ∧ (0 ≤ x ∧ x ≤ 54) ∧ (0 ≤ y ∧ y ≤ 54)
  simp only [hk, hd, h1, h6]
  exact h
theorem keep_VT {s t : Mem} (hi : Inv s) (h1 : t 37 1 = s 37 1) (h2 : t 37 3 = s 37 3) (h3 : t 37 4 = s 37 4) (h4 : ∀ c, 49 ≤ c → c ≤ 56 → t c = s c) : VT (win t 37) := by
  have h : VT (win s 37) := hi.2.2.2.2.1.1.2.2.2.2.2.2
  have e12 : win t 37 12 = win s 37 12 := h4 49 (by omega) (by omega)
  have e13 : win t 37 13 = win s 37 13 := h4 50 (by omega) (by omega)
  have e14 : win t 37 14 = win s 37 14 := h4 51 (by omega) (by omega)
  have e15 : win t 37 15 = win s 37 15 := h4 52 (by omega) (by omega)
  have e16 : win t 37 16 = win s 37 16 := h4 53 (by omega) (by omega)
  have e17 : win t 37 17 = win s 37 17 := h4 54 (by omega) (by omega)
  have e18 : win t 37 18 = win s 37 18 := h4 55 (by omega) (by omega)
  have e19 : win t 37 19 = win s 37 19 := h4 56 (by omega) (by omega)
  have f1 : win t 37 0 1 = win s 37 0 1 := h1
  have f3 : win t 37 0 3 = win s 37 0 3 := h2
  have f4 : win t 37 0 4 = win s 37 0 4 := h3
  unfold VT VR NS
  rw [e12, e13, e14, e15, e16, e17, e18, e19, f1, f3, f4]
  exact h
theorem keep_RC {s t : Mem} (hi : Inv s) (h0 : ∀ i, 0 ≤ i → i ≤ 6 → t 37 i = s 37 i) (h1 : ∀ i, 0 ≤ i → i ≤ 6 → t 138 i = s 138 i) : RC (win t 37) (t 138) := by
  have h := inv_rc hi
  show t 138 0 = t 37 1 ∧ t 138 1 = t 37 2 ∧ t 138 2 = t 37 3 ∧ t 138 3 = t 37 4 ∧ t 138 4 = t 37 5 ∧ t 138 5 = t 37 0 ∧ t 138 6 = t 37 6
  rw [h0 0 (by omega) (by omega), h0 1 (by omega) (by omega), h0 2 (by omega) (by omega), h0 3 (by omega) (by omega), h0 4 (by omega) (by omega), h0 5 (by omega) (by omega), h0 6 (by omega) (by omega)]
  rw [h1 0 (by omega) (by omega), h1 1 (by omega) (by omega), h1 2 (by omega) (by omega), h1 3 (by omega) (by omega), h1 4 (by omega) (by omega), h1 5 (by omega) (by omega), h1 6 (by omega) (by omega)]
  exact h
theorem keep_RW {s t : Mem} (hi : Inv s) (h2 : t 37 2 = s 37 2) (h3 : t 39 = s 39) (h4 : t 40 = s 40) (h5 : t 41 = s 41) (hb : ∀ i, 10 ≤ i → i < 50 → t 138 i = s 138 i) : RW (win t 37) (t 138) := by
  have h := inv_rw hi
  have hc := inv_c hi
  show ∀ w, 0 ≤ w ∧ w < t 37 2 → t 138 (10 + 4 * w) = t 39 (2 * w) ∧ t 138 (11 + 4 * w) = t 39 (2 * w + 1) ∧ t 138 (12 + 4 * w) = t 40 w ∧ t 138 (13 + 4 * w) = t 41 w
  rw [h2, h3, h4, h5]
  intro w hw
  rw [hb _ (by omega) (by omega), hb _ (by omega) (by omega), hb _ (by omega) (by omega), hb _ (by omega) (by omega)]
  exact h w hw
theorem keep_RS {s t : Mem} (hi : Inv s) (h2 : t 37 3 = s 37 3) (h3 : t 42 = s 42) (hb : ∀ i, 50 ≤ i → i < 54 → t 138 i = s 138 i) : RS (win t 37) (t 138) := by
  have h := inv_rs hi
  have hc := inv_c hi
  show ∀ i, 0 ≤ i ∧ i < t 37 3 → t 138 (50 + i) = t 42 i
  rw [h2, h3]
  intro w hw
  rw [hb _ (by omega) (by omega)]
  exact h w hw
theorem keep_RL {s t : Mem} (hi : Inv s) (h2 : t 37 4 = s 37 4) (h3 : t 43 = s 43) (h4 : t 44 = s 44) (h5 : t 45 = s 45) (hb : ∀ i, 54 ≤ i → i < 109 → t 138 i = s 138 i) : RLc (win t 37) (t 138) := by
  have h := inv_rl hi
  have hc := inv_c hi
  have hv := inv_vl hi
  show ∀ c, 0 ≤ c ∧ c < t 37 4 → t 138 (54 + 11 * c) = t 43 c ∧ t 138 (55 + 11 * c) = t 44 c ∧ ∀ k i, 0 ≤ k ∧ k < t 44 c → 0 ≤ i ∧ i < 3 → t 138 (56 + 11 * c + 3 * k + i) = t 45 (9 * c + 3 * k + i)
  rw [h2, h3, h4, h5]
  intro c hw
  have hv1 := (hv c hw).2.1
  rw [hb _ (by omega) (by omega), hb _ (by omega) (by omega)]
  refine ⟨(h c hw).1, (h c hw).2.1, ?_⟩
  intro k i a b
  rw [hb _ (by omega) (by omega)]
  exact (h c hw).2.2 k i a b
theorem keep_RK {s t : Mem} (hi : Inv s) (h1 : t 37 4 = s 37 4) (h2 : t 37 5 = s 37 5) (h3 : t 46 = s 46) (h4 : t 44 = s 44) (hb : ∀ i, 109 ≤ i → i < 134 → t 138 i = s 138 i) : RK (win t 37) (t 138) := by
  have h := inv_rk hi
  have hc := inv_c hi
  show ∀ k, 0 ≤ k ∧ k < t 37 5 → t 46 k = 63 * t 138 (109 + 3 * k) + 21 * t 138 (110 + 3 * k) + t 138 (111 + 3 * k) ∧ (0 ≤ t 138 (109 + 3 * k) ∧ t 138 (109 + 3 * k) < t 37 4) ∧ (0 ≤ t 138 (110 + 3 * k) ∧ t 138 (110 + 3 * k) < t 44 (t 138 (109 + 3 * k))) ∧ (0 ≤ t 138 (111 + 3 * k) ∧ t 138 (111 + 3 * k) ≤ 20)
  rw [h1, h2, h3, h4]
  intro k hk
  rw [hb (109 + 3 * k) (by omega) (by omega), hb (110 + 3 * k) (by omega) (by omega), hb (111 + 3 * k) (by omega) (by omega)]
  exact h k hk
theorem keep_RU {s t : Mem} (hi : Inv s) (h2 : t 37 6 = s 37 6) (h3 : t 47 = s 47) (hb : ∀ i, 134 ≤ i → i < 498 → t 138 i = s 138 i) : RU (win t 37) (t 138) := by
  have h := inv_ru hi
  show t 37 6 = 1 → ∀ x b, 0 ≤ x ∧ x < 4 → 0 ≤ b ∧ b < 91 → t 138 (134 + 91 * x + b) = t 47 (4 * b + x)
  rw [h2, h3]
  intro a x b h1 h2
  rw [hb _ (by omega) (by omega)]
  exact h a x b h1 h2
theorem keep_RN {s t : Mem} (hi : Inv s) (h1 : t 37 1 = s 37 1) (h2 : t 37 3 = s 37 3) (h3 : t 37 4 = s 37 4) (h4 : t 38 = s 38) (hb : ∀ i, 0 ≤ i → i < 16 → t 139 i = s 139 i) : RN (win t 37) (t 139) := by
  have h : (∀ i, 0 ≤ i ∧ i < s 37 1 → s 139 i = s 38 i) ∧ (∀ i, 0 ≤ i ∧ i < s 37 3 → s 139 (7 + i) = s 38 (7 + i)) ∧ (∀ i, 0 ≤ i ∧ i < s 37 4 → s 139 (11 + i) = s 38 (11 + i)) := hi.2.2.2.2.1.2.2.2.2.2.2.2.1
  have hc := inv_c hi
  show (∀ i, 0 ≤ i ∧ i < t 37 1 → t 139 i = t 38 i) ∧ (∀ i, 0 ≤ i ∧ i < t 37 3 → t 139 (7 + i) = t 38 (7 + i)) ∧ (∀ i, 0 ≤ i ∧ i < t 37 4 → t 139 (11 + i) = t 38 (11 + i))
  rw [h1, h2, h3, h4]
  refine ⟨?_, ?_, ?_⟩
  · intro i a; rw [hb _ (by omega) (by omega)]; exact h.1 i a
  · intro i a; rw [hb _ (by omega) (by omega)]; exact h.2.1 i a
  · intro i a; rw [hb _ (by omega) (by omega)]; exact h.2.2 i a
theorem keep_RT {s t : Mem} (hi : Inv s) (h4 : ∀ c, 49 ≤ c → c ≤ 56 → t c = s c) (h7 : t 138 7 = s 138 7) (hb : ∀ i, 500 ≤ i → i < 860 → t 138 i = s 138 i) : RT (win t 37) (t 138) := by
  have h : RT (win s 37) (s 138) := hi.2.2.2.2.1.2.2.2.2.2.2.2.2
  have hv : VT (win s 37) := hi.2.2.2.2.1.1.2.2.2.2.2.2
  have e12 : win t 37 12 = win s 37 12 := h4 49 (by omega) (by omega)
  have e13 : win t 37 13 = win s 37 13 := h4 50 (by omega) (by omega)
  have e14 : win t 37 14 = win s 37 14 := h4 51 (by omega) (by omega)
  have e15 : win t 37 15 = win s 37 15 := h4 52 (by omega) (by omega)
  have e16 : win t 37 16 = win s 37 16 := h4 53 (by omega) (by omega)
  have e17 : win t 37 17 = win s 37 17 := h4 54 (by omega) (by omega)
  have e18 : win t 37 18 = win s 37 18 := h4 55 (by omega) (by omega)
  have e19 : win t 37 19 = win s 37 19 := h4 56 (by omega) (by omega)
  unfold RT RR1
  rw [e12, e13, e14, e15, e16, e17, e18, e19, h7]
  refine ⟨h.1, ?_⟩
  intro a
  refine ⟨(h.2 a).1, ?_⟩
  intro n hn
  have := (hv.2 a).1
  rw [hb (500 + 6 * n) (by omega) (by omega), hb (501 + 6 * n) (by omega) (by omega), hb (502 + 6 * n) (by omega) (by omega), hb (503 + 6 * n) (by omega) (by omega), hb (504 + 6 * n) (by omega) (by omega), hb (505 + 6 * n) (by omega) (by omega)]
  exact (h.2 a).2 n hn
theorem inv_up {s t : Mem} (hi : Inv s) (hs : t 137 2 = t 0 0) (h : ∀ c i, Rv c i → ¬ (37 ≤ c ∧ c ≤ 56) → ¬ (c = 138 ∧ i < 868) → ¬ (c = 139 ∧ i < 16) → t c i = s c i) (hH : HR (win t 37) (t 138) (t 139)) : Inv t := by
  obtain ⟨-, fa, tr, tp, hm, hk⟩ := hi
  unfold Rv at h
  refine ⟨hs, ?_, ?_, ?_, hH, ?_⟩
  · unfold FA
    rw [h 137 3 (by omega) (by omega) (by omega) (by omega), h 0 1 (by omega) (by omega) (by omega) (by omega), h 137 4 (by omega) (by omega) (by omega) (by omega), h 0 2 (by omega) (by omega) (by omega) (by omega), h 137 47 (by omega) (by omega) (by omega) (by omega), h 0 3 (by omega) (by omega) (by omega) (by omega), h 137 16 (by omega) (by omega) (by omega) (by omega), h 7 8 (by omega) (by omega) (by omega) (by omega), h 137 17 (by omega) (by omega) (by omega) (by omega), h 7 9 (by omega) (by omega) (by omega) (by omega), h 137 46 (by omega) (by omega) (by omega) (by omega), h 0 4 (by omega) (by omega) (by omega) (by omega)]
    obtain ⟨f1, f2, f3, f4, f5, f6, f7⟩ := fa
    refine ⟨f1, f2, f3, f4, f5, f6, ?_⟩
    intro a i b
    rw [h 154 i (by omega) (by omega) (by omega) (by omega), h 1 i (by omega) (by omega) (by omega) (by omega)]
    exact f7 a i b
  · intro k hk
    rw [h 4 k (by omega) (by omega) (by omega) (by omega), h 141 k (by omega) (by omega) (by omega) (by omega), h 140 k (by omega) (by omega) (by omega) (by omega), h 5 k (by omega) (by omega) (by omega) (by omega)]
    rcases tr k hk with q | ⟨q1, q2, q3, q4, q5⟩
    · exact Or.inl q
    · refine Or.inr ⟨q1, q2, q3, q4, ?_⟩
      intro i b
      rw [h 142 _ (by omega) (by omega) (by omega) (by omega), h 6 _ (by omega) (by omega) (by omega) (by omega)]
      exact q5 i b
  · unfold TP
    rw [h 137 10 (by omega) (by omega) (by omega) (by omega), h 7 1 (by omega) (by omega) (by omega) (by omega)]
    obtain ⟨q1, q2, q3⟩ := tp
    refine ⟨q1, q2, ?_⟩
    intro i b
    rw [h 143 i (by omega) (by omega) (by omega) (by omega), h 8 i (by omega) (by omega) (by omega) (by omega)]
    exact q3 i b
  · intro k a
    rw [h 0 3 (by omega) (by omega) (by omega) (by omega)] at a
    have f3 := fa.2.2.1
    refine HR_congr ?_ ?_ ?_ (hk k a)
    · intro j i a b; exact h _ _ (by omega) (by omega) (by omega) (by omega)
    · intro i a b; exact h _ _ (by omega) (by omega) (by omega) (by omega)
    · intro i a b; exact h _ _ (by omega) (by omega) (by omega) (by omega)
