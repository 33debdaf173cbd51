/-! ===== H2: the invariant looks at these places alone ===== -/
def ln (k : Int) : Int := lget [7, 16, 20, 10, 10, 4, 5, 5, 45, 8, 364, 49, 3, 60, 60, 60, 60, 60, 60, 60] k.toNat
theorem wk_congr {A A' : Mem} (hc : VC A) (h0 : A' 0 2 = A 0 2) (h2 : ∀ i, 0 ≤ i → i < 20 → A' 2 i = A 2 i) (h3 : ∀ i, 0 ≤ i → i < 10 → A' 3 i = A 3 i) (h4 : ∀ i, 0 ≤ i → i < 10 → A' 4 i = A 4 i) : ∀ (n : Nat) (a b x y : Int), wk_ A' n a b x y ↔ wk_ A n a b x y := by
  obtain ⟨-, -, hw, -⟩ := hc
  intro n
  induction n with
  | zero => intro a b x y; exact Iff.rfl
  | succ n ih =>
    intro a b x y
    constructor
    · rintro ⟨w, c, h1, h5, h6⟩
      rw [h0] at h1
      rw [h2 _ (by omega) (by omega), h2 _ (by omega) (by omega)] at h5
      rw [h3 _ (by omega) (by omega), h4 _ (by omega) (by omega), ih] at h6
      exact ⟨w, c, h1, h5, h6⟩
    · rintro ⟨w, c, h1, h5, h6⟩
      refine ⟨w, c, ?_, ?_, ?_⟩
      · rw [h0]; exact h1
      · rw [h2 _ (by omega) (by omega), h2 _ (by omega) (by omega)]; exact h5
      · rw [h3 _ (by omega) (by omega), h4 _ (by omega) (by omega), ih]; exact h6
theorem VA_congr {A A' : Mem} (hA : ∀ k i, 0 ≤ k ∧ k < 20 → 0 ≤ i ∧ i < ln k → A' k i = A k i) (h : VA A) : VA A' := by
  obtain ⟨hc, hw, hs, hl, hu, hn, ht⟩ := h
  have k0 : ∀ i, 0 ≤ i → i < 7 → A' 0 i = A 0 i := fun i h1 h2 => hA 0 i (by omega) ⟨h1, h2⟩
  have k2 : ∀ i, 0 ≤ i → i < 20 → A' 2 i = A 2 i := fun i h1 h2 => hA 2 i (by omega) ⟨h1, h2⟩
  have k3 : ∀ i, 0 ≤ i → i < 10 → A' 3 i = A 3 i := fun i h1 h2 => hA 3 i (by omega) ⟨h1, h2⟩
  have k4 : ∀ i, 0 ≤ i → i < 10 → A' 4 i = A 4 i := fun i h1 h2 => hA 4 i (by omega) ⟨h1, h2⟩
  have k5 : ∀ i, 0 ≤ i → i < 4 → A' 5 i = A 5 i := fun i h1 h2 => hA 5 i (by omega) ⟨h1, h2⟩
  have k6 : ∀ i, 0 ≤ i → i < 5 → A' 6 i = A 6 i := fun i h1 h2 => hA 6 i (by omega) ⟨h1, h2⟩
  have k7 : ∀ i, 0 ≤ i → i < 5 → A' 7 i = A 7 i := fun i h1 h2 => hA 7 i (by omega) ⟨h1, h2⟩
  have k8 : ∀ i, 0 ≤ i → i < 45 → A' 8 i = A 8 i := fun i h1 h2 => hA 8 i (by omega) ⟨h1, h2⟩
  have k10 : ∀ i, 0 ≤ i → i < 364 → A' 10 i = A 10 i := fun i h1 h2 => hA 10 i (by omega) ⟨h1, h2⟩
  have k11 : ∀ i, 0 ≤ i → i < 49 → A' 11 i = A 11 i := fun i h1 h2 => hA 11 i (by omega) ⟨h1, h2⟩
  have k12 : ∀ i, 0 ≤ i → i < 3 → A' 12 i = A 12 i := fun i h1 h2 => hA 12 i (by omega) ⟨h1, h2⟩
  have k13 : ∀ i, 0 ≤ i → i < 60 → A' 13 i = A 13 i := fun i h1 h2 => hA 13 i (by omega) ⟨h1, h2⟩
  have k14 : ∀ i, 0 ≤ i → i < 60 → A' 14 i = A 14 i := fun i h1 h2 => hA 14 i (by omega) ⟨h1, h2⟩
  have k15 : ∀ i, 0 ≤ i → i < 60 → A' 15 i = A 15 i := fun i h1 h2 => hA 15 i (by omega) ⟨h1, h2⟩
  have k16 : ∀ i, 0 ≤ i → i < 60 → A' 16 i = A 16 i := fun i h1 h2 => hA 16 i (by omega) ⟨h1, h2⟩
  have k17 : ∀ i, 0 ≤ i → i < 60 → A' 17 i = A 17 i := fun i h1 h2 => hA 17 i (by omega) ⟨h1, h2⟩
  have k18 : ∀ i, 0 ≤ i → i < 60 → A' 18 i = A 18 i := fun i h1 h2 => hA 18 i (by omega) ⟨h1, h2⟩
  have k19 : ∀ i, 0 ≤ i → i < 60 → A' 19 i = A 19 i := fun i h1 h2 => hA 19 i (by omega) ⟨h1, h2⟩
  have hwk := wk_congr hc (k0 2 (by omega) (by omega)) k2 k3 k4
  obtain ⟨c0, c1, c2, c3, c4, c5, c6⟩ := hc
  have j0 := k0 0 (by omega) (by omega)
  have j1 := k0 1 (by omega) (by omega)
  have j2 := k0 2 (by omega) (by omega)
  have j3 := k0 3 (by omega) (by omega)
  have j4 := k0 4 (by omega) (by omega)
  have j5 := k0 5 (by omega) (by omega)
  have j6 := k0 6 (by omega) (by omega)
  have i0 := k12 0 (by omega) (by omega)
  have i2 := k12 2 (by omega) (by omega)
  refine ⟨?_, ?_, ?_, ?_, ?_, ?_, ?_⟩
  · unfold VC; rw [j0, j1, j2, j3, j4, j5, j6]; exact ⟨c0, c1, c2, c3, c4, c5, c6⟩
  · intro w h; rw [j2] at h
    rw [j1, k2 _ (by omega) (by omega), k2 _ (by omega) (by omega), k3 _ (by omega) (by omega), k4 _ (by omega) (by omega)]
    exact hw w h
  · intro w h; rw [j3] at h
    rw [j1, k5 _ (by omega) (by omega)]
    exact hs w h
  · intro c h; rw [j4] at h
    rw [j1, k6 _ (by omega) (by omega), k7 _ (by omega) (by omega)]
    obtain ⟨h1, h2, h3⟩ := hl c h
    refine ⟨h1, h2, ?_⟩
    intro k i a1 a2
    rw [k8 _ (by omega) (by omega)]
    exact h3 k i a1 a2
  · intro h x b a1 a2
    rw [j6] at h
    rw [j3, k10 _ (by omega) (by omega)]
    exact hu h x b a1 a2
  · intro a b a1 a2
    rw [j1] at a1 a2
    rw [k11 _ (by omega) (by omega)]
    rcases hn a b a1 a2 with ⟨h1, h2⟩ | ⟨x, y, ⟨h1, h2⟩, h3⟩
    · exact Or.inl ⟨h1, fun n x y h => h2 n x y ((hwk n a b x y).mp h)⟩
    · refine Or.inr ⟨x, y, ⟨?_, fun n x' y' h => h2 n x' y' ((hwk n a b x' y').mp h)⟩, h3⟩
      obtain ⟨n, h1⟩ := h1
      exact ⟨n, (hwk n a b x y).mpr h1⟩
  · refine ⟨by rw [i0]; exact ht.1, ?_⟩
    intro h
    rw [i0] at h
    rw [i2]
    obtain ⟨h1, h2, h3⟩ := ht.2 h
    refine ⟨h1, ?_, ?_⟩
    rotate_left 1
    · intro n m a b c e f g
      rw [i2] at c
      rw [k13 n (by omega) (by omega)] at e
      rw [k19 n (by omega) (by omega)] at f ⊢
      rw [k13 m (by omega) (by omega)] at g
      rw [k19 m (by omega) (by omega)]
      exact h3 n m a b c e f g
    intro n hn
    unfold VR
    rw [j1, j3, j4, i2, k13 n (by omega) (by omega), k14 n (by omega) (by omega), k15 n (by omega) (by omega), k16 n (by omega) (by omega), k17 n (by omega) (by omega), k18 n (by omega) (by omega), k19 n (by omega) (by omega)]
    rcases h2 n hn with q | q | q | q | q | q
    · exact Or.inl q
    · exact Or.inr (Or.inl q)
    · exact Or.inr (Or.inr (Or.inl q))
    · refine Or.inr (Or.inr (Or.inr (Or.inl ?_)))
      rw [k13 (A 19 n) (by omega) (by omega), k19 (A 19 n) (by omega) (by omega)]
      exact q
    · refine Or.inr (Or.inr (Or.inr (Or.inr (Or.inl ?_))))
      rw [k13 (A 19 n) (by omega) (by omega), k19 (A 19 n) (by omega) (by omega), k13 (n + 1) (by omega) (by omega)]
      exact q
    · refine Or.inr (Or.inr (Or.inr (Or.inr (Or.inr ?_))))
      rw [k13 (A 19 n) (by omega) (by omega), k19 (A 19 n) (by omega) (by omega)]
      exact q
theorem HR_congr {A A' : Mem} {B B' N N' : Int → Int} (hA : ∀ k i, 0 ≤ k ∧ k < 20 → 0 ≤ i ∧ i < ln k → A' k i = A k i) (hB : ∀ i, 0 ≤ i → i < 868 → B' i = B i) (hN : ∀ i, 0 ≤ i → i < 16 → N' i = N i) (h : HR A B N) : HR A' B' N' := by
  obtain ⟨hv, rc, rw_, rs, rl, rk, ru, rn_, rt⟩ := h
  have hv' := VA_congr hA hv
  obtain ⟨⟨c0, c1, c2, c3, c4, c5, c6⟩, hw, hs, hl, hu, hn, ht⟩ := hv
  have k0 : ∀ i, 0 ≤ i → i < 7 → A' 0 i = A 0 i := fun i h1 h2 => hA 0 i (by omega) ⟨h1, h2⟩
  have k1 : ∀ i, 0 ≤ i → i < 16 → A' 1 i = A 1 i := fun i h1 h2 => hA 1 i (by omega) ⟨h1, h2⟩
  have k2 : ∀ i, 0 ≤ i → i < 20 → A' 2 i = A 2 i := fun i h1 h2 => hA 2 i (by omega) ⟨h1, h2⟩
  have k3 : ∀ i, 0 ≤ i → i < 10 → A' 3 i = A 3 i := fun i h1 h2 => hA 3 i (by omega) ⟨h1, h2⟩
  have k4 : ∀ i, 0 ≤ i → i < 10 → A' 4 i = A 4 i := fun i h1 h2 => hA 4 i (by omega) ⟨h1, h2⟩
  have k5 : ∀ i, 0 ≤ i → i < 4 → A' 5 i = A 5 i := fun i h1 h2 => hA 5 i (by omega) ⟨h1, h2⟩
  have k6 : ∀ i, 0 ≤ i → i < 5 → A' 6 i = A 6 i := fun i h1 h2 => hA 6 i (by omega) ⟨h1, h2⟩
  have k7 : ∀ i, 0 ≤ i → i < 5 → A' 7 i = A 7 i := fun i h1 h2 => hA 7 i (by omega) ⟨h1, h2⟩
  have k8 : ∀ i, 0 ≤ i → i < 45 → A' 8 i = A 8 i := fun i h1 h2 => hA 8 i (by omega) ⟨h1, h2⟩
  have k9 : ∀ i, 0 ≤ i → i < 8 → A' 9 i = A 9 i := fun i h1 h2 => hA 9 i (by omega) ⟨h1, h2⟩
  have k10 : ∀ i, 0 ≤ i → i < 364 → A' 10 i = A 10 i := fun i h1 h2 => hA 10 i (by omega) ⟨h1, h2⟩
  have k12 : ∀ i, 0 ≤ i → i < 3 → A' 12 i = A 12 i := fun i h1 h2 => hA 12 i (by omega) ⟨h1, h2⟩
  have k13 : ∀ i, 0 ≤ i → i < 60 → A' 13 i = A 13 i := fun i h1 h2 => hA 13 i (by omega) ⟨h1, h2⟩
  have k14 : ∀ i, 0 ≤ i → i < 60 → A' 14 i = A 14 i := fun i h1 h2 => hA 14 i (by omega) ⟨h1, h2⟩
  have k15 : ∀ i, 0 ≤ i → i < 60 → A' 15 i = A 15 i := fun i h1 h2 => hA 15 i (by omega) ⟨h1, h2⟩
  have k16 : ∀ i, 0 ≤ i → i < 60 → A' 16 i = A 16 i := fun i h1 h2 => hA 16 i (by omega) ⟨h1, h2⟩
  have k17 : ∀ i, 0 ≤ i → i < 60 → A' 17 i = A 17 i := fun i h1 h2 => hA 17 i (by omega) ⟨h1, h2⟩
  have k18 : ∀ i, 0 ≤ i → i < 60 → A' 18 i = A 18 i := fun i h1 h2 => hA 18 i (by omega) ⟨h1, h2⟩
  have k19 : ∀ i, 0 ≤ i → i < 60 → A' 19 i = A 19 i := fun i h1 h2 => hA 19 i (by omega) ⟨h1, h2⟩
  have j0 := k0 0 (by omega) (by omega)
  have j1 := k0 1 (by omega) (by omega)
  have j2 := k0 2 (by omega) (by omega)
  have j3 := k0 3 (by omega) (by omega)
  have j4 := k0 4 (by omega) (by omega)
  have j5 := k0 5 (by omega) (by omega)
  have j6 := k0 6 (by omega) (by omega)
  have i0 := k12 0 (by omega) (by omega)
  have i2 := k12 2 (by omega) (by omega)
  refine ⟨hv', ?_, ?_, ?_, ?_, ?_, ?_, ?_, ?_⟩
  · unfold RC
    rw [j0, j1, j2, j3, j4, j5, j6, hB 0 (by omega) (by omega), hB 1 (by omega) (by omega), hB 2 (by omega) (by omega), hB 3 (by omega) (by omega), hB 4 (by omega) (by omega), hB 5 (by omega) (by omega), hB 6 (by omega) (by omega)]
    exact rc
  · intro w h; rw [j2] at h
    rw [k2 _ (by omega) (by omega), k2 _ (by omega) (by omega), k3 _ (by omega) (by omega), k4 _ (by omega) (by omega), hB (10 + 4 * w) (by omega) (by omega), hB (11 + 4 * w) (by omega) (by omega), hB (12 + 4 * w) (by omega) (by omega), hB (13 + 4 * w) (by omega) (by omega)]
    exact rw_ w h
  · intro w h; rw [j3] at h
    rw [k5 _ (by omega) (by omega), hB (50 + w) (by omega) (by omega)]
    exact rs w h
  · intro c h; rw [j4] at h
    rw [k6 _ (by omega) (by omega), k7 _ (by omega) (by omega), hB (54 + 11 * c) (by omega) (by omega), hB (55 + 11 * c) (by omega) (by omega)]
    obtain ⟨h1, h2, h3⟩ := rl c h
    refine ⟨h1, h2, ?_⟩
    intro k i a1 a2
    have := (hl c h).2.1
    rw [k8 _ (by omega) (by omega), hB (56 + 11 * c + 3 * k + i) (by omega) (by omega)]
    exact h3 k i a1 a2
  · intro k h; rw [j5] at h
    have := rk k h
    rw [j4, k9 _ (by omega) (by omega), hB (109 + 3 * k) (by omega) (by omega), hB (110 + 3 * k) (by omega) (by omega), hB (111 + 3 * k) (by omega) (by omega), k7 _ (by omega) (by omega)]
    exact this
  · intro h x b a1 a2
    rw [j6] at h
    rw [k10 _ (by omega) (by omega), hB (134 + 91 * x + b) (by omega) (by omega)]
    exact ru h x b a1 a2
  · refine ⟨?_, ?_, ?_⟩
    · intro i h; rw [j1] at h
      rw [k1 _ (by omega) (by omega), hN _ (by omega) (by omega)]; exact rn_.1 i h
    · intro i h; rw [j3] at h
      rw [k1 _ (by omega) (by omega), hN _ (by omega) (by omega)]; exact rn_.2.1 i h
    · intro i h; rw [j4] at h
      rw [k1 _ (by omega) (by omega), hN _ (by omega) (by omega)]; exact rn_.2.2 i h
  · unfold RT
    rw [i0, i2, hB 7 (by omega) (by omega)]
    refine ⟨rt.1, ?_⟩
    intro h
    obtain ⟨h1, h2⟩ := rt.2 h
    refine ⟨h1, ?_⟩
    intro n hn
    have := (ht.2 h).1
    unfold RR1
    rw [k13 n (by omega) (by omega), k14 n (by omega) (by omega), k15 n (by omega) (by omega), k16 n (by omega) (by omega), k17 n (by omega) (by omega), k18 n (by omega) (by omega), k19 n (by omega) (by omega), hB (500 + 6 * n) (by omega) (by omega), hB (501 + 6 * n) (by omega) (by omega), hB (502 + 6 * n) (by omega) (by omega), hB (503 + 6 * n) (by omega) (by omega), hB (504 + 6 * n) (by omega) (by omega), hB (505 + 6 * n) (by omega) (by omega)]
    exact h2 n hn
/-- the places that the invariant looks at, statuses aside -/
def Rv (c i : Int) : Prop := (c = 0 ∧ 1 ≤ i ∧ i ≤ 4) ∨ c = 1 ∨ (4 ≤ c ∧ c ≤ 6) ∨ (c = 7 ∧ (i = 1 ∨ i = 8 ∨ i = 9)) ∨ c = 8 ∨ (37 ≤ c ∧ c ≤ 56) ∨ (77 ≤ c ∧ c ≤ 136) ∨ (c = 137 ∧ (i = 3 ∨ i = 4 ∨ i = 10 ∨ i = 16 ∨ i = 17 ∨ i = 46 ∨ i = 47)) ∨ (c = 138 ∧ i < 3472) ∨ (c = 139 ∧ i < 64) ∨ (140 ≤ c ∧ c ≤ 143) ∨ c = 154
theorem inv_of {s t : Mem} (h : ∀ c i, Rv c i → t c i = s c i) (hs : t 137 2 = t 0 0) (hi : Inv s) : Inv t := by
  obtain ⟨-, fa, tr, tp, hm, hk⟩ := hi
  have e : ∀ c i, Rv c i → t c i = s c i := h
  unfold Rv at h
  refine ⟨hs, ?_, ?_, ?_, ?_, ?_⟩
  · unfold FA
    rw [h 137 3 (by omega), h 0 1 (by omega), h 137 4 (by omega), h 0 2 (by omega), h 137 47 (by omega), h 0 3 (by omega), h 137 16 (by omega), h 7 8 (by omega), h 137 17 (by omega), h 7 9 (by omega), h 137 46 (by omega), h 0 4 (by omega)]
    obtain ⟨f1, f2, f3, f4, f5, f6, f7⟩ := fa
    refine ⟨f1, f2, f3, f4, f5, f6, ?_⟩
    intro a i b
    rw [h 154 i (by omega), h 1 i (by omega)]
    exact f7 a i b
  · intro k hk
    rw [h 4 k (by omega), h 141 k (by omega), h 140 k (by omega), h 5 k (by omega)]
    rcases tr k hk with q | ⟨q1, q2, q3, q4, q5⟩
    · exact Or.inl q
    · refine Or.inr ⟨q1, q2, q3, q4, ?_⟩
      intro i b
      rw [h 142 _ (by omega), h 6 _ (by omega)]
      exact q5 i b
  · unfold TP
    rw [h 137 10 (by omega), h 7 1 (by omega)]
    obtain ⟨q1, q2, q3⟩ := tp
    refine ⟨q1, q2, ?_⟩
    intro i b
    rw [h 143 i (by omega), h 8 i (by omega)]
    exact q3 i b
  · refine HR_congr (A := win s 37) (B := s 138) (N := s 139) ?_ ?_ ?_ hm
    · intro k i a b; exact h _ _ (by omega)
    · intro i a b; exact h _ _ (by omega)
    · intro i a b; exact h _ _ (by omega)
  · intro k a
    rw [h 0 3 (by omega)] at a
    have f3 := fa.2.2.1
    refine HR_congr ?_ ?_ ?_ (hk k a)
    · intro j i a b; exact h _ _ (by omega)
    · intro i a b; exact h _ _ (by omega)
    · intro i a b; exact h _ _ (by omega)
