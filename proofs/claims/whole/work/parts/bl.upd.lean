/-! ===== H2: mornings, what stays when a step is added ===== -/
theorem RowP_c {s t u w : Mem} {k W : Int} (h1 : t 37 1 = s 37 1) (h3 : t 37 3 = s 37 3) (h4 : t 37 4 = s 37 4) (hr : ∀ c, 71 ≤ c ∧ c ≤ 75 → t c k = s c k) (hw : ∀ j, 0 ≤ j ∧ j ≤ 5 → j ≠ 4 → w 138 (3972 + 6 * k + j) = u 138 (3972 + 6 * k + j)) (h : RowP s s u k W) : RowP t t w k W := by
  have w0 : w 138 (3972 + 6 * k) = u 138 (3972 + 6 * k) := by
    have := hw 0 (by omega) (by omega)
    rw [Int.add_zero] at this; exact this
  have w1 := hw 1 (by omega) (by omega)
  have w2 := hw 2 (by omega) (by omega)
  have w3 := hw 3 (by omega) (by omega)
  have w5 := hw 5 (by omega) (by omega)
  have r1 := hr 71 (by omega)
  have r2 := hr 72 (by omega)
  have r3 := hr 73 (by omega)
  have r4 := hr 74 (by omega)
  have r5 := hr 75 (by omega)
  unfold RowP at h ⊢
  rw [w0, w1, w2, w3, w5, r1, r2, r3, r4, r5, h1, h3, h4]
  exact h
/-- a row that was there already, when the stack changes -/
theorem MRow_c {s t u w : Mem} {e e' k : Int} (h1 : t 37 1 = s 37 1) (h3 : t 37 3 = s 37 3) (h4 : t 37 4 = s 37 4) (h70 : t 70 k = s 70 k) (hr : ∀ c, 71 ≤ c ∧ c ≤ 75 → t c k = s c k) (hw : ∀ j, 0 ≤ j ∧ j ≤ 5 → j ≠ 4 → w 138 (3972 + 6 * k + j) = u 138 (3972 + 6 * k + j)) (h19 : s 70 k = 19 → u 138 (3972 + 6 * k + 4) = s 76 k → w 138 (3972 + 6 * k + 4) = t 76 k) (hl : opW (s 70) k → ¬ stk (t 11) e' k → (¬ stk (s 11) e k → u 138 (3972 + 6 * k + 4) = s 76 k) → w 138 (3972 + 6 * k + 4) = t 76 k) (h : MRow s u e k) : MRow t w e' k := by
  rcases h with ⟨g, g1, g2⟩ | ⟨g, g1, g2⟩
  · left
    have := hw 0 (by omega) (by omega)
    rw [Int.add_zero] at this
    exact ⟨by rw [h70]; exact g, by rw [this]; exact g1, h19 g g2⟩
  · right
    refine ⟨by rw [h70]; exact g, by rw [h70]; exact RowP_c h1 h3 h4 hr hw g1, fun ho hs => ?_⟩
    have ho' : opW (s 70) k := (op_c h70).1 ho
    exact hl ho' hs (g2 ho')
