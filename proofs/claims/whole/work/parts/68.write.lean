/-! ===== H2: write and read, on both objects ===== -/
theorem plM_ok {s : Mem} {t p : Int} (h : plM s t p = 0) : (0 ≤ t ∧ t < 4) ∧ ¬ s 4 t = -1 ∧ 0 ≤ p ∧ p < s 5 t := by
  unfold plM at h
  by_cases h1 : 0 ≤ t ∧ t < 4
  · rw [if_pos h1] at h
    by_cases h2 : s 4 t = -1
    · rw [if_pos h2] at h; omega
    · rw [if_neg h2] at h
      by_cases h3 : 0 ≤ p ∧ p < s 5 t
      · exact ⟨h1, h2, h3.1, h3.2⟩
      · rw [if_neg h3] at h; omega
  · rw [if_neg h1] at h; omega
theorem q_put (d : Nat) (t p v : Int) (ht : 0 ≤ t ∧ t < 4) (hp : 0 ≤ p ∧ p < 60) (s : Mem) : sem (d + 2) m_Trays_put [3, t, p, v] s = some (0, mset s 6 (t * 60 + p) (cutv (s 4 t) v)) := by
  apply i_Trays_put
  have e0 : wr (t * 60) = t * 60 := wr_e (by omega) (by omega)
  have e2 : wr (t * 60 + p) = t * 60 + p := wr_e (by omega) (by omega)
  have e4 : 0 ≤ t * 60 + p ∧ t * 60 + p < 240 := by omega
  simp only [b_Trays_put_0, rn, lget_0, lget_s, show (3 : Int) + 3 = 6 from rfl, show (3 : Int) + 1 = 4 from rfl, alen_4, alen_6, ht, e0, e2, e4, and_self, if_true, q_cut, cal_some, GR_some, G_ret, List.headD]
theorem q_Mwrite_no (d : Nat) (t p v : Int) (s : Mem) (h : ¬ plM s t p = 0) : sem (d + 3) 8 [0, t, p, v] s = some (0, mset s 0 0 (plM s t p)) := by
  apply i_M_write
  simp only [b_M_write_0, rn, lget_0, lget_s, lset_0, lset_s, show (0 : Int) + 3 = 3 from rfl, q_problemAt, q_deny, cal_some, h, if_false, GR_some, GR_none, GR_ite, G_ret, List.headD]
  simp
theorem q_Mwrite_ok (d : Nat) (t p v : Int) (s : Mem) (h : plM s t p = 0) (hz : s 5 t ≤ 60) : sem (d + 3) 8 [0, t, p, v] s = some (1, mset (mset s 6 (t * 60 + p) (cutv (s 4 t) v)) 0 0 0) := by
  obtain ⟨ht, -, hp1, hp2⟩ := plM_ok h
  apply i_M_write
  simp only [b_M_write_0, b_M_write_23, rn, lget_0, lget_s, lset_0, lset_s, show (0 : Int) + 3 = 3 from rfl, q_problemAt, q_put _ _ _ _ ht ⟨hp1, by omega⟩, q_grant, cal_some, h, if_true, GR_some, GR_none, GR_ite, G_ret, List.headD]
  simp
theorem q_Mread_no (d : Nat) (t p : Int) (s : Mem) (h : ¬ plM s t p = 0) : sem (d + 3) 13 [0, t, p] s = some (-1, mset s 0 0 (plM s t p)) := by
  apply i_M_read
  simp only [b_M_read_0, rn, lget_0, lget_s, lset_0, lset_s, show (0 : Int) + 3 = 3 from rfl, q_problemAt, q_fail, cal_some, h, if_false, GR_some, GR_none, GR_ite, G_ret, List.headD]
  simp
theorem q_Mread_ok (d : Nat) (t p : Int) (s : Mem) (h : plM s t p = 0) (hz : s 5 t ≤ 60) : sem (d + 3) 13 [0, t, p] s = some (s 6 (t * 60 + p), mset s 0 0 0) := by
  obtain ⟨ht, -, hp1, hp2⟩ := plM_ok h
  apply i_M_read
  have e0 : wr (t * 60) = t * 60 := wr_e (by omega) (by omega)
  have e2 : wr (t * 60 + p) = t * 60 + p := wr_e (by omega) (by omega)
  have e4 : 0 ≤ t * 60 + p ∧ t * 60 + p < 240 := by omega
  have e5 : mset s 0 (0 : Nat) 0 6 (t * 60 + p) = s 6 (t * 60 + p) := by unfold mset; rw [if_neg (by decide)]
  simp only [b_M_read_0, b_M_read_21, rn, lget_0, lget_s, lset_0, lset_s, show (0 : Int) + 3 = 3 from rfl, show (3 : Int) + 3 = 6 from rfl, alen_6, q_problemAt, cal_some, h, e0, e2, e4, e5, and_self, if_true, GR_some, GR_none, GR_ite, G_ret, List.headD]
  simp
