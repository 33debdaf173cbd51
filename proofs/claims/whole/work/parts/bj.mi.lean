/-! ===== H2: mornings, both at a step's boundary ===== -/
def FrM (u w : Mem) : Prop := ∀ c i, ¬ (c = 137 ∧ ((12 ≤ i ∧ i ≤ 15) ∨ (17 ≤ i ∧ i ≤ 20) ∨ i = 22 ∨ i = 23)) → ¬ (c = 138 ∧ 3472 ≤ i ∧ i < 4340) → ¬ (c = 139 ∧ 64 ≤ i ∧ i < 80) → c ≠ 145 → w c i = u c i
def NoM (u0 : Mem) (k f r' : Int) (w : Mem) : Prop := r' = 0 ∧ FrM u0 w ∧ w 137 18 = k ∧ w 137 17 = f
theorem NoM_of {u0 u w : Mem} {k f r : Int} (h : FrM u0 u) (h2 : NoR u k f r w) : NoM u0 k f r w := ⟨h2.1, fun c i a b e g => by rw [h2.2.1 c i (by omega) b e]; exact h c i a b e g, h2.2.2⟩
def MRow (s u : Mem) (e k : Int) : Prop := (s 70 k = 19 ∧ u 138 (3972 + 6 * k) = 17 ∧ u 138 (3972 + 6 * k + 4) = s 76 k) ∨ (s 70 k ≠ 19 ∧ RowP s s u k (s 70 k) ∧ (opW (s 70) k → ¬ stk (s 11) e k → u 138 (3972 + 6 * k + 4) = s 76 k))
def MI (T : Int → Int) (n : Int) (s u0 u : Mem) (p : Int) : Prop := NmU s u ∧ Rs_ T n p u ∧ FrM u0 u ∧ (0 ≤ s 69 2 ∧ (0 ≤ s 69 1 ∧ s 69 1 ≤ 30) ∧ (0 ≤ s 10 2 ∧ s 10 2 ≤ 3) ∧ s 69 2 + s 10 2 ≤ 2 * s 69 1) ∧ (u 138 3479 = s 69 2 ∧ u 137 23 = s 69 1 ∧ u 137 22 = s 10 2 ∧ ∀ j, 0 ≤ j ∧ j < s 10 2 → u 145 j = s 11 j) ∧ SI (s 70) (s 76) (s 11) (s 69 2) (s 10 2) ∧ ∀ k, 0 ≤ k ∧ k < s 69 2 → MRow s u (s 10 2) k
theorem MI_fin {T : Int → Int} {n p : Int} {s u0 u A : Mem} {B : Int → Int} (h : MI T n s u0 u p) (he : s 10 2 = 0) (hA : ∀ k i, 13 ≤ k ∧ k ≤ 19 → 0 ≤ i ∧ i < 60 → A k i = s (57 + k) i) (a0 : A 12 0 = 1) (a2 : A 12 2 = s 69 2) (ac1 : A 0 1 = s 37 1) (ac3 : A 0 3 = s 37 3) (ac4 : A 0 4 = s 37 4) (hB : ∀ i, 500 ≤ i → i < 860 → B i = u 138 (3472 + i)) (b7 : B 7 = s 69 2) : VT A ∧ RT A B := by
  obtain ⟨-, -, -, hc, -, hS, hM⟩ := h
  rw [he] at hS hM hc
  obtain ⟨f1, f2, f3, f4⟩ := SI_fin hS
  have e13 : ∀ i, 0 ≤ i ∧ i < 60 → A 13 i = s 70 i := fun i hi => hA 13 i (by omega) hi
  have e14 : ∀ i, 0 ≤ i ∧ i < 60 → A 14 i = s 71 i := fun i hi => hA 14 i (by omega) hi
  have e15 : ∀ i, 0 ≤ i ∧ i < 60 → A 15 i = s 72 i := fun i hi => hA 15 i (by omega) hi
  have e16 : ∀ i, 0 ≤ i ∧ i < 60 → A 16 i = s 73 i := fun i hi => hA 16 i (by omega) hi
  have e17 : ∀ i, 0 ≤ i ∧ i < 60 → A 17 i = s 74 i := fun i hi => hA 17 i (by omega) hi
  have e18 : ∀ i, 0 ≤ i ∧ i < 60 → A 18 i = s 75 i := fun i hi => hA 18 i (by omega) hi
  have e19 : ∀ i, 0 ≤ i ∧ i < 60 → A 19 i = s 76 i := fun i hi => hA 19 i (by omega) hi
  have ns : ∀ k, ¬ stk (s 11) 0 k := fun k ⟨j, hj, _⟩ => by omega
  have lk : ∀ k, 0 ≤ k ∧ k < s 69 2 → opW (s 70) k → k < A 19 k ∧ A 19 k < A 12 2 ∧ A 13 (A 19 k) = 19 ∧ A 19 (A 19 k) = k := fun k hk ho => by
    obtain ⟨g1, g2, g3, g4⟩ := f1 k hk ho
    rw [e19 k (by omega), a2, e13 _ (by omega), e19 _ (by omega)]
    exact ⟨g1, g2, g3, g4⟩
  refine ⟨⟨by omega, fun _ => ⟨by rw [a2]; omega, fun k hk => ?_, fun m k x y z om hlt ok => ?_⟩⟩, fun h => by omega, fun _ => ⟨by rw [b7, a2], fun k hk => ?_⟩⟩
  · rw [a2] at hk
    have k60 : 0 ≤ k ∧ k < 60 := by omega
    have w13 := e13 k k60
    have w14 := e14 k k60
    have w15 := e15 k k60
    have w16 := e16 k k60
    have w17 := e17 k k60
    have w18 := e18 k k60
    have w19 := e19 k k60
    unfold VR
    rcases hM k hk with ⟨g, -, -⟩ | ⟨-, g, -⟩
    · obtain ⟨l1, l2, l3⟩ := f2 k hk g
      have l4 : A 13 (s 76 k) = s 70 (s 76 k) := e13 _ (by omega)
      have l5 : A 19 (s 76 k) = s 76 (s 76 k) := e19 _ (by omega)
      refine Or.inr (Or.inr (Or.inr (Or.inr (Or.inr ⟨by rw [w13]; exact g, by rw [w19]; exact l1, by rw [w19, l4]; exact l2, by rw [w19, l5]; exact l3⟩))))
    · rcases g with ⟨g, g1, -⟩ | ⟨g, g1, -⟩ | ⟨g, -⟩ | ⟨g, -⟩ | ⟨g, g1⟩ | ⟨g, g1, -⟩
      · exact Or.inl ⟨by rw [w13]; exact g, by rw [w15, ac4]; exact g1.1, by rw [w16]; exact g1.2.1, by rw [w18]; exact g1.2.2⟩
      · exact Or.inr (Or.inl ⟨by rw [w13]; exact g, by rw [w15, ac4]; exact g1.1, by rw [w16, ac1]; exact g1.2⟩)
      · exact Or.inr (Or.inr (Or.inl (by rw [w13]; omega)))
      · exact Or.inr (Or.inr (Or.inl (by rw [w13]; omega)))
      · refine Or.inr (Or.inr (Or.inr (Or.inl ⟨by rw [w13]; exact g, lk k hk (Or.inl g), ?_⟩)))
        rw [w14, w15, w16, w17, w18, ac1, ac3, ac4]
        rcases g1 with ⟨x, y, -⟩ | ⟨x, y, -⟩ | ⟨x, y, -⟩
        · exact Or.inl ⟨x, y⟩
        · exact Or.inr (Or.inl ⟨x, y⟩)
        · exact Or.inr (Or.inr ⟨x, y⟩)
      · have l := lk k hk (Or.inr g)
        refine Or.inr (Or.inr (Or.inr (Or.inr (Or.inl ⟨by rw [w13]; exact g, l, fun h19 => ?_, by rw [w18]; exact g1⟩))))
        have l2 := f1 k hk (Or.inr g)
        rw [e13 _ (by omega)] at h19
        rw [w19]
        exact f3 k hk.1 hk.2 (Or.inr g) h19
  · rw [a2] at z
    have m60 : 0 ≤ m ∧ m < 60 := by omega
    have k60 : 0 ≤ k ∧ k < 60 := by omega
    rw [e13 m m60] at om
    rw [e13 k k60] at ok
    rw [e19 m m60] at hlt
    rw [e19 m m60, e19 k k60]
    exact f4 m k x y z om hlt ok
  · rw [a2] at hk
    have k60 : 0 ≤ k ∧ k < 60 := by omega
    have b0 : B (500 + 6 * k) = u 138 (3972 + 6 * k) := by rw [hB _ (by omega) (by omega)]; congr 1; omega
    have b1 : B (501 + 6 * k) = u 138 (3972 + 6 * k + 1) := by rw [hB _ (by omega) (by omega)]; congr 1; omega
    have b2 : B (502 + 6 * k) = u 138 (3972 + 6 * k + 2) := by rw [hB _ (by omega) (by omega)]; congr 1; omega
    have b3 : B (503 + 6 * k) = u 138 (3972 + 6 * k + 3) := by rw [hB _ (by omega) (by omega)]; congr 1; omega
    have b4 : B (504 + 6 * k) = u 138 (3972 + 6 * k + 4) := by rw [hB _ (by omega) (by omega)]; congr 1; omega
    have b5 : B (505 + 6 * k) = u 138 (3972 + 6 * k + 5) := by rw [hB _ (by omega) (by omega)]; congr 1; omega
    unfold RR1
    rw [e13 k k60, e14 k k60, e15 k k60, e16 k k60, e17 k k60, e18 k k60, e19 k k60, b0, b1, b2, b3, b4, b5]
    rcases hM k hk with ⟨g, g1, g2⟩ | ⟨gn, g, gl⟩
    · refine ⟨fun h => by omega, fun h => by omega, fun h => by omega, fun h => by omega, fun h => by omega, fun h => by omega, fun h => by omega, fun h => by omega, fun _ => ⟨g1, g2⟩⟩
    · rcases g with ⟨g, -, g1⟩ | ⟨g, -, g1⟩ | ⟨g, g1⟩ | ⟨g, g1⟩ | ⟨g, g1⟩ | ⟨g, -, g1, g2⟩
      · exact ⟨fun _ => g1, fun h => by omega, fun h => by omega, fun h => by omega, fun h => by omega, fun h => by omega, fun h => by omega, fun h => by omega, fun h => by omega⟩
      · exact ⟨fun h => by omega, fun _ => g1, fun h => by omega, fun h => by omega, fun h => by omega, fun h => by omega, fun h => by omega, fun h => by omega, fun h => by omega⟩
      · exact ⟨fun h => by omega, fun h => by omega, fun h => by omega, fun h => by omega, fun h => by omega, fun h => by omega, fun h => by omega, fun h => by omega, fun h => by omega⟩
      · exact ⟨fun h => by omega, fun h => by omega, fun h => by omega, fun h => by omega, fun h => by omega, fun _ => g1, fun h => by omega, fun h => by omega, fun h => by omega⟩
      · refine ⟨fun h => by omega, fun h => by omega, fun h => by omega, fun h => by omega, fun h => by omega, fun h => by omega, fun _ => ⟨gl (Or.inl g) (ns k), fun h => ?_, fun h => ?_, fun h => ?_⟩, fun h => by omega, fun h => by omega⟩
        · rcases g1 with ⟨x, -, y⟩ | ⟨x, -⟩ | ⟨x, -⟩
          · exact y
          · omega
          · omega
        · rcases g1 with ⟨x, -⟩ | ⟨x, -, y⟩ | ⟨x, -⟩
          · omega
          · exact y
          · omega
        · rcases g1 with ⟨x, -⟩ | ⟨x, -⟩ | ⟨x, -, y⟩
          · omega
          · omega
          · exact y
      · exact ⟨fun h => by omega, fun h => by omega, fun h => by omega, fun h => by omega, fun h => by omega, fun h => by omega, fun h => by omega, fun _ => ⟨g1, g2, gl (Or.inr g) (ns k)⟩, fun h => by omega⟩
