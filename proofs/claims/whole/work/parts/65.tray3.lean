/-! ===== H2: tray, refused ===== -/
theorem q_Mtray_no (d : Nat) (t so ma : Int) (h : ¬ trOk t so ma) (s : Mem) : sem (d + 2) 3 [0, t, so, ma] s = some (0, mset s 0 0 1) := by
  apply i_M_tray
  have go : G (sem (d + 1)) o_M_tray 30 [] [0, t, so, ma] s 0 (mset s 0 0 1) := by
    unfold G
    rw [b_M_tray_30]
    simp only [rn, lget_0, lget_s, q_deny, cal_some, GR_ite, GR_some, GR_none, G_ret, List.headD]
    simp
  unfold G at go ⊢
  rw [b_M_tray_0]
  simp only [rn, lget_0, lget_s, show (0 : Int) + 3 = 3 from rfl, q_isOne, cal_some, GR_some, GR_ite]
  unfold trOk at h
  by_cases h1 : 0 ≤ t ∧ t < 4
  · rw [if_pos h1, if_neg (by decide)]
    by_cases h2 : so < 0
    · rw [if_pos h2]; exact go
    · rw [if_neg h2]
      by_cases h3 : 3 < so
      · rw [if_pos h3]; exact go
      · rw [if_neg h3]
        by_cases h4 : ma < 0
        · rw [if_pos h4]; exact go
        · rw [if_neg h4, if_neg (by omega)]; exact go
  · rw [if_neg h1, if_pos rfl]; exact go
theorem q_Rtray_no (d : Nat) (t so ma : Int) (h : ¬ trOk t so ma) (s : Mem) : sem (d + 2) 216 [137, t, so, ma] s = some (0, mset s 137 2 1) := by
  apply i_R_tray
  have go : G (sem (d + 1)) o_R_tray 26 [] [137, t, so, ma, 0] s 0 (mset s 137 2 1) := by
    unfold G
    rw [b_R_tray_26]
    simp only [rn, lget_0, lget_s, q_is, cal_some, GR_ite, GR_some, GR_none, G_ret, List.headD]
    simp
  unfold G at go ⊢
  rw [b_R_tray_0]
  simp only [rn, lget_0, lget_s, q_isTray, cal_some, GR_some, GR_ite]
  unfold trOk at h
  by_cases h1 : 0 ≤ t ∧ t < 4
  · rw [if_pos h1, if_neg (by decide)]
    by_cases h2 : so < 0
    · rw [if_pos h2]; exact go
    · rw [if_neg h2]
      by_cases h3 : 3 < so
      · rw [if_pos h3]; exact go
      · rw [if_neg h3]
        by_cases h4 : ma < 0
        · rw [if_pos h4]; exact go
        · rw [if_neg h4, if_neg (by omega)]; exact go
  · rw [if_neg h1, if_pos rfl]; exact go
