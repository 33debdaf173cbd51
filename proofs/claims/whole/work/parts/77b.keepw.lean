/-! ===== H2: what stays when some cells change, for any hall ===== -/
theorem wkeep_VC {A A' : Mem} {B N : Int → Int} (hi : HR A B N) (h0 : ∀ i, 0 ≤ i → i ≤ 6 → A' 0 i = A 0 i) : VC A' := by
  have h := hi.1.1
  show (0 ≤ A' 0 0 ∧ A' 0 0 ≤ 16) ∧ (0 ≤ A' 0 1 ∧ A' 0 1 ≤ 7) ∧ (0 ≤ A' 0 2 ∧ A' 0 2 ≤ 10) ∧ (0 ≤ A' 0 3 ∧ A' 0 3 ≤ 4) ∧ (0 ≤ A' 0 4 ∧ A' 0 4 ≤ 5) ∧ (0 ≤ A' 0 5 ∧ A' 0 5 ≤ 8) ∧ (0 ≤ A' 0 6 ∧ A' 0 6 ≤ 1)
  rw [h0 0 (by omega) (by omega), h0 1 (by omega) (by omega), h0 2 (by omega) (by omega), h0 3 (by omega) (by omega), h0 4 (by omega) (by omega), h0 5 (by omega) (by omega), h0 6 (by omega) (by omega)]
  exact h
theorem wkeep_VW {A A' : Mem} {B N : Int → Int} (hi : HR A B N) (h1 : A' 0 1 = A 0 1) (h2 : A' 0 2 = A 0 2) (h3 : A' 2 = A 2) (h4 : A' 3 = A 3) (h5 : A' 4 = A 4) : VW A' := by
  have h := hi.1.2.1
  unfold VW at h
  rw [← h1, ← h2, ← h3, ← h4, ← h5] at h
  exact h
theorem wkeep_VS {A A' : Mem} {B N : Int → Int} (hi : HR A B N) (h1 : A' 0 1 = A 0 1) (h2 : A' 0 3 = A 0 3) (h3 : A' 5 = A 5) : VS A' := by
  have h := hi.1.2.2.1
  unfold VS at h
  rw [← h1, ← h2, ← h3] at h
  exact h
theorem wkeep_VL {A A' : Mem} {B N : Int → Int} (hi : HR A B N) (h1 : A' 0 1 = A 0 1) (h2 : A' 0 4 = A 0 4) (h3 : A' 6 = A 6) (h4 : A' 7 = A 7) (h5 : A' 8 = A 8) : VL A' := by
  have h := hi.1.2.2.2.1
  unfold VL at h
  rw [← h1, ← h2, ← h3, ← h4, ← h5] at h
  exact h
theorem wkeep_VU {A A' : Mem} {B N : Int → Int} (hi : HR A B N) (h1 : A' 0 3 = A 0 3) (h2 : A' 0 6 = A 0 6) (h3 : A' 10 = A 10) : VU A' := by
  have h := hi.1.2.2.2.2.1
  unfold VU at h
  rw [← h1, ← h2, ← h3] at h
  exact h
theorem wkeep_wk {A A' : Mem} (h2 : A' 0 2 = A 0 2) (h3 : A' 2 = A 2) (h4 : A' 3 = A 3) (h5 : A' 4 = A 4) : ∀ n a b x y, wk_ A' n a b x y = wk_ A n a b x y := by
  intro n
  induction n with
  | zero => intros; rfl
  | succ n ih =>
    intro a b x y
    show (∃ w c, (0 ≤ w ∧ w < A' 0 2) ∧ ((A' 2 (2 * w) = a ∧ A' 2 (2 * w + 1) = c) ∨ (A' 2 (2 * w) = c ∧ A' 2 (2 * w + 1) = a)) ∧ wk_ A' n c b (x - A' 3 w) (y - A' 4 w)) = (∃ w c, (0 ≤ w ∧ w < A 0 2) ∧ ((A 2 (2 * w) = a ∧ A 2 (2 * w + 1) = c) ∨ (A 2 (2 * w) = c ∧ A 2 (2 * w + 1) = a)) ∧ wk_ A n c b (x - A 3 w) (y - A 4 w))
    rw [h2, h3, h4, h5]
    simp only [ih]
theorem wkeep_VN {A A' : Mem} {B N : Int → Int} (hi : HR A B N) (h1 : A' 0 1 = A 0 1) (h2 : A' 0 2 = A 0 2) (h3 : A' 2 = A 2) (h4 : A' 3 = A 3) (h5 : A' 4 = A 4) (h6 : A' 11 = A 11) : VN A' := by
  have h : ∀ a b, 0 ≤ a ∧ a < A 0 1 → 0 ≤ b ∧ b < A 0 1 → (A 11 (7 * a + b) = 10000000 ∧ ∀ n x y, ¬ wk_ A n a b x y) ∨ ∃ x y, dst A a b x y ∧ A 11 (7 * a + b) = 1000 * x + y ∧ (0 ≤ x ∧ x ≤ 54) ∧ (0 ≤ y ∧ y ≤ 54) := hi.1.2.2.2.2.2.1
  have hk := wkeep_wk h2 h3 h4 h5
  have hd : ∀ a b x y, dst A' a b x y = dst A a b x y := by
    intro a b x y; unfold dst; simp only [hk]
  show ∀ a b, 0 ≤ a ∧ a < A' 0 1 → 0 ≤ b ∧ b < A' 0 1 → (A' 11 (7 * a + b) = 10000000 ∧ ∀ n x y, ¬ wk_ A' n a b x y) ∨ ∃ x y, dst A' a b x y ∧ A' 11 (7 * a + b) = 1000 * x + y ∧ (0 ≤ x ∧ x ≤ 54) ∧ (0 ≤ y ∧ y ≤ 54)
  simp only [hk, hd, h1, h6]
  exact h
theorem wkeep_VT {A A' : Mem} {B N : Int → Int} (hi : HR A B N) (h1 : A' 0 1 = A 0 1) (h2 : A' 0 3 = A 0 3) (h3 : A' 0 4 = A 0 4) (h4 : ∀ c, 12 ≤ c → c ≤ 19 → A' c = A c) : VT A' := by
  have h : VT A := hi.1.2.2.2.2.2.2
  have e12 : A' 12 = A 12 := h4 12 (by omega) (by omega)
  have e13 : A' 13 = A 13 := h4 13 (by omega) (by omega)
  have e14 : A' 14 = A 14 := h4 14 (by omega) (by omega)
  have e15 : A' 15 = A 15 := h4 15 (by omega) (by omega)
  have e16 : A' 16 = A 16 := h4 16 (by omega) (by omega)
  have e17 : A' 17 = A 17 := h4 17 (by omega) (by omega)
  have e18 : A' 18 = A 18 := h4 18 (by omega) (by omega)
  have e19 : A' 19 = A 19 := h4 19 (by omega) (by omega)
  have f1 : A' 0 1 = A 0 1 := h1
  have f3 : A' 0 3 = A 0 3 := h2
  have f4 : A' 0 4 = A 0 4 := h3
  unfold VT VR NS
  rw [e12, e13, e14, e15, e16, e17, e18, e19, f1, f3, f4]
  exact h
theorem wkeep_RC {A A' : Mem} {B B' N : Int → Int} (hi : HR A B N) (h0 : ∀ i, 0 ≤ i → i ≤ 6 → A' 0 i = A 0 i) (h1 : ∀ i, 0 ≤ i → i ≤ 6 → B' i = B i) : RC A' B' := by
  have h := hi.2.1
  show B' 0 = A' 0 1 ∧ B' 1 = A' 0 2 ∧ B' 2 = A' 0 3 ∧ B' 3 = A' 0 4 ∧ B' 4 = A' 0 5 ∧ B' 5 = A' 0 0 ∧ B' 6 = A' 0 6
  rw [h0 0 (by omega) (by omega), h0 1 (by omega) (by omega), h0 2 (by omega) (by omega), h0 3 (by omega) (by omega), h0 4 (by omega) (by omega), h0 5 (by omega) (by omega), h0 6 (by omega) (by omega)]
  rw [h1 0 (by omega) (by omega), h1 1 (by omega) (by omega), h1 2 (by omega) (by omega), h1 3 (by omega) (by omega), h1 4 (by omega) (by omega), h1 5 (by omega) (by omega), h1 6 (by omega) (by omega)]
  exact h
theorem wkeep_RW {A A' : Mem} {B B' N : Int → Int} (hi : HR A B N) (h2 : A' 0 2 = A 0 2) (h3 : A' 2 = A 2) (h4 : A' 3 = A 3) (h5 : A' 4 = A 4) (hb : ∀ i, 10 ≤ i → i < 50 → B' i = B i) : RW A' B' := by
  have h := hi.2.2.1
  unfold RW at h
  have hc := hi.1.1
  unfold VC at hc
  show ∀ w, 0 ≤ w ∧ w < A' 0 2 → B' (10 + 4 * w) = A' 2 (2 * w) ∧ B' (11 + 4 * w) = A' 2 (2 * w + 1) ∧ B' (12 + 4 * w) = A' 3 w ∧ B' (13 + 4 * w) = A' 4 w
  rw [h2, h3, h4, h5]
  intro w hw
  rw [hb _ (by omega) (by omega), hb _ (by omega) (by omega), hb _ (by omega) (by omega), hb _ (by omega) (by omega)]
  exact h w hw
theorem wkeep_RS {A A' : Mem} {B B' N : Int → Int} (hi : HR A B N) (h2 : A' 0 3 = A 0 3) (h3 : A' 5 = A 5) (hb : ∀ i, 50 ≤ i → i < 54 → B' i = B i) : RS A' B' := by
  have h := hi.2.2.2.1
  unfold RS at h
  have hc := hi.1.1
  unfold VC at hc
  show ∀ i, 0 ≤ i ∧ i < A' 0 3 → B' (50 + i) = A' 5 i
  rw [h2, h3]
  intro w hw
  rw [hb _ (by omega) (by omega)]
  exact h w hw
theorem wkeep_RL {A A' : Mem} {B B' N : Int → Int} (hi : HR A B N) (h2 : A' 0 4 = A 0 4) (h3 : A' 6 = A 6) (h4 : A' 7 = A 7) (h5 : A' 8 = A 8) (hb : ∀ i, 54 ≤ i → i < 109 → B' i = B i) : RLc A' B' := by
  have h := hi.2.2.2.2.1
  unfold RLc at h
  have hc := hi.1.1
  unfold VC at hc
  have hv := hi.1.2.2.2.1
  unfold VL at hv
  show ∀ c, 0 ≤ c ∧ c < A' 0 4 → B' (54 + 11 * c) = A' 6 c ∧ B' (55 + 11 * c) = A' 7 c ∧ ∀ k i, 0 ≤ k ∧ k < A' 7 c → 0 ≤ i ∧ i < 3 → B' (56 + 11 * c + 3 * k + i) = A' 8 (9 * c + 3 * k + i)
  rw [h2, h3, h4, h5]
  intro c hw
  have hv1 := (hv c hw).2.1
  rw [hb _ (by omega) (by omega), hb _ (by omega) (by omega)]
  refine ⟨(h c hw).1, (h c hw).2.1, ?_⟩
  intro k i a b
  rw [hb _ (by omega) (by omega)]
  exact (h c hw).2.2 k i a b
theorem wkeep_RK {A A' : Mem} {B B' N : Int → Int} (hi : HR A B N) (h1 : A' 0 4 = A 0 4) (h2 : A' 0 5 = A 0 5) (h3 : A' 9 = A 9) (h4 : A' 7 = A 7) (hb : ∀ i, 109 ≤ i → i < 134 → B' i = B i) : RK A' B' := by
  have h := hi.2.2.2.2.2.1
  unfold RK at h
  have hc := hi.1.1
  unfold VC at hc
  show ∀ k, 0 ≤ k ∧ k < A' 0 5 → A' 9 k = 63 * B' (109 + 3 * k) + 21 * B' (110 + 3 * k) + B' (111 + 3 * k) ∧ (0 ≤ B' (109 + 3 * k) ∧ B' (109 + 3 * k) < A' 0 4) ∧ (0 ≤ B' (110 + 3 * k) ∧ B' (110 + 3 * k) < A' 7 (B' (109 + 3 * k))) ∧ (0 ≤ B' (111 + 3 * k) ∧ B' (111 + 3 * k) ≤ 20)
  rw [h1, h2, h3, h4]
  intro k hk
  rw [hb (109 + 3 * k) (by omega) (by omega), hb (110 + 3 * k) (by omega) (by omega), hb (111 + 3 * k) (by omega) (by omega)]
  exact h k hk
theorem wkeep_RU {A A' : Mem} {B B' N : Int → Int} (hi : HR A B N) (h2 : A' 0 6 = A 0 6) (h3 : A' 10 = A 10) (hb : ∀ i, 134 ≤ i → i < 498 → B' i = B i) : RU A' B' := by
  have h := hi.2.2.2.2.2.2.1
  unfold RU at h
  show A' 0 6 = 1 → ∀ x b, 0 ≤ x ∧ x < 4 → 0 ≤ b ∧ b < 91 → B' (134 + 91 * x + b) = A' 10 (4 * b + x)
  rw [h2, h3]
  intro a x b h1 h2
  rw [hb _ (by omega) (by omega)]
  exact h a x b h1 h2
theorem wkeep_RN {A A' : Mem} {B N N' : Int → Int} (hi : HR A B N) (h1 : A' 0 1 = A 0 1) (h2 : A' 0 3 = A 0 3) (h3 : A' 0 4 = A 0 4) (h4 : A' 1 = A 1) (hb : ∀ i, 0 ≤ i → i < 16 → N' i = N i) : RN A' N' := by
  have h : (∀ i, 0 ≤ i ∧ i < A 0 1 → N i = A 1 i) ∧ (∀ i, 0 ≤ i ∧ i < A 0 3 → N (7 + i) = A 1 (7 + i)) ∧ (∀ i, 0 ≤ i ∧ i < A 0 4 → N (11 + i) = A 1 (11 + i)) := hi.2.2.2.2.2.2.2.1
  have hc := hi.1.1
  unfold VC at hc
  show (∀ i, 0 ≤ i ∧ i < A' 0 1 → N' i = A' 1 i) ∧ (∀ i, 0 ≤ i ∧ i < A' 0 3 → N' (7 + i) = A' 1 (7 + i)) ∧ (∀ i, 0 ≤ i ∧ i < A' 0 4 → N' (11 + i) = A' 1 (11 + i))
  rw [h1, h2, h3, h4]
  refine ⟨?_, ?_, ?_⟩
  · intro i a; rw [hb _ (by omega) (by omega)]; exact h.1 i a
  · intro i a; rw [hb _ (by omega) (by omega)]; exact h.2.1 i a
  · intro i a; rw [hb _ (by omega) (by omega)]; exact h.2.2 i a
theorem wkeep_RT {A A' : Mem} {B B' N : Int → Int} (hi : HR A B N) (h4 : ∀ c, 12 ≤ c → c ≤ 19 → A' c = A c) (h7 : B' 7 = B 7) (hb : ∀ i, 500 ≤ i → i < 860 → B' i = B i) : RT A' B' := by
  have h : RT A (B) := hi.2.2.2.2.2.2.2.2
  have hv : VT A := hi.1.2.2.2.2.2.2
  have e12 : A' 12 = A 12 := h4 12 (by omega) (by omega)
  have e13 : A' 13 = A 13 := h4 13 (by omega) (by omega)
  have e14 : A' 14 = A 14 := h4 14 (by omega) (by omega)
  have e15 : A' 15 = A 15 := h4 15 (by omega) (by omega)
  have e16 : A' 16 = A 16 := h4 16 (by omega) (by omega)
  have e17 : A' 17 = A 17 := h4 17 (by omega) (by omega)
  have e18 : A' 18 = A 18 := h4 18 (by omega) (by omega)
  have e19 : A' 19 = A 19 := h4 19 (by omega) (by omega)
  unfold RT RR1
  rw [e12, e13, e14, e15, e16, e17, e18, e19, h7]
  refine ⟨h.1, ?_⟩
  intro a
  refine ⟨(h.2 a).1, ?_⟩
  intro n hn
  have := (hv.2 a).1
  rw [hb (500 + 6 * n) (by omega) (by omega), hb (501 + 6 * n) (by omega) (by omega), hb (502 + 6 * n) (by omega) (by omega), hb (503 + 6 * n) (by omega) (by omega), hb (504 + 6 * n) (by omega) (by omega), hb (505 + 6 * n) (by omega) (by omega)]
  exact (h.2 a).2 n hn
