theorem t_hasCry (d : Nat) (h c k : Int) (s : Mem) : sem (d + 1) m_Hall_hasCry [h, c, k] s = some (if 0 ≤ c ∧ c < s h 4 ∧ 0 ≤ k ∧ k < s (h + 7) c then 1 else 0, s) := by
  apply i_Hall_hasCry
  simp only [b_Hall_hasCry_0, b_Hall_hasCry_30, b_Hall_hasCry_31, lget_0, lget_s, lset_0, lset_s, GR_some, GR_none, GR_ite, G_ret, List.headD, rn]
  rfl
