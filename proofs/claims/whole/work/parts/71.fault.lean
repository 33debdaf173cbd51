/-! ===== H2: fault ===== -/
theorem q_fault (d : Nat) (w : Int) (s : Mem) : sem (d + 1) 85 [0, w] s = some (if w = 0 then s 7 8 else if w = 1 then s 7 9 else -1, s) := by
  apply i_M_fault
  simp only [b_M_fault_0, b_M_fault_12, b_M_fault_27, b_M_fault_28, rn, lget_0, lget_s, show (0 : Int) + 7 = 7 from rfl, GR_some, GR_none, GR_ite, G_ret, List.headD]
  by_cases h0 : w = 0
  · simp [h0]
  · by_cases h1 : w = 1
    · simp [h1]
    · simp [h0, h1]
theorem q_Rfault (d : Nat) (w : Int) (s : Mem) : sem (d + 1) 226 [137, w] s = some (if w = 0 then s 137 16 else if w = 1 then s 137 17 else -1, s) := by
  apply i_R_fault
  simp only [b_R_fault_0, b_R_fault_11, b_R_fault_23, b_R_fault_24, rn, lget_0, lget_s, GR_some, GR_none, GR_ite, G_ret, List.headD]
  by_cases h0 : w = 0
  · simp [h0]
  · by_cases h1 : w = 1
    · simp [h1]
    · simp [h0, h1]
