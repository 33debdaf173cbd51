/-! ===== H2: places of trays ===== -/
theorem q_isMissing (d : Nat) (t : Int) (ht : 0 ≤ t ∧ t < 4) (s : Mem) : sem (d + 1) m_Trays_isMissing [3, t] s = some (if s 4 t = -1 then 1 else 0, s) := by
  apply i_Trays_isMissing
  simp only [b_Trays_isMissing_0, b_Trays_isMissing_14, b_Trays_isMissing_15, rn, lget_0, lget_s, show (3 : Int) + 1 = 4 from rfl, alen_4, ht, and_self, if_true, GR_some, GR_none, GR_ite, G_ret, List.headD]
  by_cases h : s 4 t = -1
  · simp [h]
  · simp [h]
/-- what is wrong with a place of a tray of the class -/
def plM (s : Mem) (t p : Int) : Int := if 0 ≤ t ∧ t < 4 then (if s 4 t = -1 then 2 else if 0 ≤ p ∧ p < s 5 t then 0 else 3) else 1
theorem q_problemAt (d : Nat) (t p : Int) (s : Mem) : sem (d + 2) m_Trays_problemAt [3, t, p] s = some (plM s t p, s) := by
  apply i_Trays_problemAt
  unfold plM
  by_cases ht : 0 ≤ t ∧ t < 4
  · simp only [b_Trays_problemAt_0, b_Trays_problemAt_10, b_Trays_problemAt_20, b_Trays_problemAt_38, b_Trays_problemAt_39, rn, lget_0, lget_s, q_isOne, q_isMissing _ _ ht, cal_some, show (3 : Int) + 2 = 5 from rfl, alen_5, ht, and_self, if_true, GR_some, GR_none, GR_ite, G_ret, List.headD]
    by_cases h : s 4 t = -1
    · simp [h]
    · by_cases h1 : p < 0
      · rw [if_neg (by omega : ¬ (0 ≤ p ∧ p < s 5 t))]; simp [h, h1]
      · by_cases h2 : s 5 t ≤ p
        · rw [if_neg (by omega : ¬ (0 ≤ p ∧ p < s 5 t))]; simp [h, h1, h2]
        · rw [if_pos (by omega : 0 ≤ p ∧ p < s 5 t)]; simp [h, h1, h2]
  · simp only [b_Trays_problemAt_0, rn, lget_0, lget_s, q_isOne, cal_some, ht, if_false, GR_some, GR_none, GR_ite, G_ret, List.headD]
    simp
