/-! ===== H2: trays ===== -/
theorem q_isOne (d : Nat) (h t : Int) (s : Mem) : sem (d + 1) m_Trays_isOne [h, t] s = some (if 0 ≤ t ∧ t < 4 then 1 else 0, s) := by
  apply i_Trays_isOne
  simp only [b_Trays_isOne_0, b_Trays_isOne_13, b_Trays_isOne_14, rn, lget_0, lget_s, lset_0, lset_s, GR_some, GR_none, GR_ite, G_ret, List.headD]
  by_cases h1 : t < 0
  · rw [if_pos h1, if_neg (by omega : ¬ (0 ≤ t ∧ t < 4))]; simp
  · by_cases h2 : 4 ≤ t
    · rw [if_neg h1, if_pos h2, if_neg (by omega : ¬ (0 ≤ t ∧ t < 4))]; simp
    · rw [if_neg h1, if_neg h2, if_pos (by omega : 0 ≤ t ∧ t < 4)]; simp
theorem q_deny (d : Nat) (h p : Int) (s : Mem) : sem (d + 1) m_M_deny [h, p] s = some (0, mset s h 0 p) := by
  apply i_M_deny
  simp only [b_M_deny_0, rn, lget_0, lget_s, lset_0, lset_s, GR_some, GR_none, GR_ite, G_ret, List.headD]
  simp
theorem q_grant (d : Nat) (h : Int) (s : Mem) : sem (d + 1) m_M_grant [h] s = some (1, mset s h 0 0) := by
  apply i_M_grant
  simp only [b_M_grant_0, rn, lget_0, lget_s, lset_0, lset_s, GR_some, GR_none, GR_ite, G_ret, List.headD]
  simp
theorem q_fail (d : Nat) (h p : Int) (s : Mem) : sem (d + 1) m_M_fail [h, p] s = some (-1, mset s h 0 p) := by
  apply i_M_fail
  simp only [b_M_fail_0, rn, lget_0, lget_s, lset_0, lset_s, GR_some, GR_none, GR_ite, G_ret, List.headD]
  simp
theorem q_pass (d : Nat) (h v : Int) (s : Mem) : sem (d + 1) m_M_pass [h, v] s = some (v, mset s h 0 0) := by
  apply i_M_pass
  simp only [b_M_pass_0, rn, lget_0, lget_s, lset_0, lset_s, GR_some, GR_none, GR_ite, G_ret, List.headD]
  simp
theorem q_status (d : Nat) (h : Int) (s : Mem) : sem (d + 1) m_M_status [h] s = some (s h 0, s) := by
  apply i_M_status
  simp only [b_M_status_0, rn, lget_0, lget_s, GR_some, G_ret, List.headD]
  simp
theorem q_Rstatus (d : Nat) (h : Int) (s : Mem) : sem (d + 1) m_R_status [h] s = some (s h 2, s) := by
  apply i_R_status
  simp only [b_R_status_0, rn, lget_0, lget_s, GR_some, G_ret, List.headD]
  simp
