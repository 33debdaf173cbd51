/-! ===== H2: places of the reference's trays; cutting a number to a sort ===== -/
def plR (s : Mem) (t p : Int) : Int := if 0 ≤ t ∧ t < 4 then (if s 141 t = -1 then 2 else if 0 ≤ p ∧ p < s 141 t then 0 else 3) else 1
theorem q_wrongPlace (d : Nat) (t p : Int) (s : Mem) : sem (d + 2) 220 [137, t, p] s = some (plR s t p, s) := by
  apply i_R_wrongPlace
  unfold plR
  by_cases ht : 0 ≤ t ∧ t < 4
  · simp only [b_R_wrongPlace_0, b_R_wrongPlace_11, b_R_wrongPlace_25, b_R_wrongPlace_39, b_R_wrongPlace_43, b_R_wrongPlace_44, rn, lget_0, lget_s, q_isTray, cal_some, show (137 : Int) + 4 = 141 from rfl, alen_141, ht, and_self, if_true, GR_some, GR_none, GR_ite, G_ret, List.headD]
    by_cases h : s 141 t = -1
    · simp [h]
    · by_cases h1 : p < 0
      · rw [if_neg (by omega : ¬ (0 ≤ p ∧ p < s 141 t))]; simp [h, h1]
      · by_cases h2 : p < s 141 t
        · rw [if_pos (by omega : 0 ≤ p ∧ p < s 141 t)]; simp [h, h1, h2]
        · rw [if_neg (by omega : ¬ (0 ≤ p ∧ p < s 141 t))]; simp [h, h1, h2]
  · simp only [b_R_wrongPlace_0, b_R_wrongPlace_44, rn, lget_0, lget_s, q_isTray, cal_some, ht, if_false, GR_some, GR_none, GR_ite, G_ret, List.headD]
    simp
/-- a number cut to a sort -/
def cutv (so v : Int) : Int := if so = 0 then w8 (wr v) else if so = 1 then w16 (wr v) else if so = 2 then wr v else v
theorem q_cut (d : Nat) (so v : Int) (s : Mem) : sem (d + 1) m_Trays_cut [so, v] s = some (cutv so v, s) := by
  apply i_Trays_cut
  unfold cutv
  unfold G
  rw [b_Trays_cut_0]
  simp only [rn, lget_0, lget_s, swk_c, swk_n, GR_ite, GR_some]
  by_cases h0 : so = 0
  · rw [if_pos h0, if_pos h0, b_Trays_cut_28]
    simp only [rn, lget_0, lget_s, GR_some, G_ret, List.headD]; simp
  · rw [if_neg h0, if_neg h0]
    by_cases h1 : so = 1
    · rw [if_pos h1, if_pos h1, b_Trays_cut_33]
      simp only [rn, lget_0, lget_s, GR_some, G_ret, List.headD]; simp
    · rw [if_neg h1, if_neg h1]
      by_cases h2 : so = 2
      · rw [if_pos h2, if_pos h2, b_Trays_cut_38]
        simp only [rn, lget_0, lget_s, GR_some, G_ret, List.headD]; simp
      · rw [if_neg h2, if_neg h2, b_Trays_cut_42]
        simp only [rn, lget_0, lget_s, GR_some, G_ret, List.headD]; simp
theorem q_Rcut (d : Nat) (so v : Int) (s : Mem) : sem (d + 1) 221 [v, so] s = some (cutv so v, s) := by
  apply i_R_cut
  unfold cutv
  simp only [b_R_cut_0, b_R_cut_11, b_R_cut_23, b_R_cut_34, b_R_cut_35, rn, lget_0, lget_s, GR_some, GR_none, GR_ite, G_ret, List.headD]
  by_cases h0 : so = 0
  · simp [h0]
  · by_cases h1 : so = 1
    · simp [h1]
    · by_cases h2 : so = 2
      · simp [h2]
      · simp [h0, h1, h2]
