/-! ===== H2: answers read off ===== -/
theorem q_top (d : Nat) (s : Mem) : sem (d + 1) 1 [0] s = some (s 0 1, s) := by
  apply i_M_top
  simp only [b_M_top_0, rn, lget_0, lget_s, GR_some, G_ret, List.headD]
  simp
theorem q_bottom (d : Nat) (s : Mem) : sem (d + 1) 2 [0] s = some (s 0 2, s) := by
  apply i_M_bottom
  simp only [b_M_bottom_0, rn, lget_0, lget_s, GR_some, G_ret, List.headD]
  simp
theorem q_Rtop (d : Nat) (s : Mem) : sem (d + 1) 214 [137] s = some (s 137 3, s) := by
  apply i_R_top
  simp only [b_R_top_0, rn, lget_0, lget_s, GR_some, G_ret, List.headD]
  simp
theorem q_Rbottom (d : Nat) (s : Mem) : sem (d + 1) 215 [137] s = some (s 137 4, s) := by
  apply i_R_bottom
  simp only [b_R_bottom_0, rn, lget_0, lget_s, GR_some, G_ret, List.headD]
  simp
theorem q_gives (d : Nat) (v : Int) (s : Mem) : sem (d + 1) m_R_gives [137, v] s = some (v, mset s 137 2 0) := by
  apply i_R_gives
  simp only [b_R_gives_0, rn, lget_0, lget_s, GR_some, G_ret, List.headD]
  simp
theorem q_refuse (d : Nat) (w : Int) (s : Mem) : sem (d + 1) m_R_refuse [137, w] s = some (-1, mset s 137 2 w) := by
  apply i_R_refuse
  simp only [b_R_refuse_0, rn, lget_0, lget_s, GR_some, G_ret, List.headD]
  simp
