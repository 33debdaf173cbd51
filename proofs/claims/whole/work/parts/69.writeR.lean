/-! ===== H2: write and read of the reference ===== -/
theorem plR_ok {s : Mem} {t p : Int} (h : plR s t p = 0) : (0 ≤ t ∧ t < 4) ∧ ¬ s 141 t = -1 ∧ 0 ≤ p ∧ p < s 141 t := by
  unfold plR at h
  by_cases h1 : 0 ≤ t ∧ t < 4
  · rw [if_pos h1] at h
    by_cases h2 : s 141 t = -1
    · rw [if_pos h2] at h; omega
    · rw [if_neg h2] at h
      by_cases h3 : 0 ≤ p ∧ p < s 141 t
      · exact ⟨h1, h2, h3.1, h3.2⟩
      · rw [if_neg h3] at h; omega
  · rw [if_neg h1] at h; omega
theorem q_Rwrite_no (d : Nat) (t p v : Int) (s : Mem) (h : ¬ plR s t p = 0) : sem (d + 3) 219 [137, t, p, v] s = some (0, mset s 137 2 (plR s t p)) := by
  apply i_R_write
  simp only [b_R_write_0, b_R_write_34, rn, lget_0, lget_s, lset_0, lset_s, q_wrongPlace, q_is, cal_some, h, not_false_eq_true, if_true, if_false, GR_some, GR_none, GR_ite, G_ret, List.headD]
  simp
theorem q_Rwrite_ok (d : Nat) (t p v : Int) (s : Mem) (h : plR s t p = 0) (hz : s 141 t ≤ 60) : sem (d + 3) 219 [137, t, p, v] s = some (1, mset (mset s 142 (60 * t + p) (cutv (s 140 t) v)) 137 2 0) := by
  obtain ⟨ht, -, hp1, hp2⟩ := plR_ok h
  apply i_R_write
  have e0 : wr (60 * t) = 60 * t := wr_e (by omega) (by omega)
  have e2 : wr (60 * t + p) = 60 * t + p := wr_e (by omega) (by omega)
  have e4 : 0 ≤ 60 * t + p ∧ 60 * t + p < 240 := by omega
  simp only [b_R_write_0, b_R_write_34, rn, lget_0, lget_s, lset_0, lset_s, q_wrongPlace, q_Rcut, q_is, cal_some, h, show (137 : Int) + 5 = 142 from rfl, show (137 : Int) + 3 = 140 from rfl, alen_140, alen_142, ht, e0, e2, e4, and_self, not_true_eq_false, if_true, if_false, GR_some, GR_none, GR_ite, G_ret, List.headD]
  simp
theorem plR_pos {s : Mem} {t p : Int} : 0 ≤ plR s t p := by
  unfold plR
  split
  · split
    · omega
    · split <;> omega
  · omega
theorem mset_same {s : Mem} {a j v : Int} : mset s a j v a j = v := by unfold mset; rw [if_pos rfl, if_pos rfl]
theorem q_Rread_no (d : Nat) (t p : Int) (s : Mem) (h : ¬ plR s t p = 0) : sem (d + 3) 222 [137, t, p] s = some (-1, mset s 137 2 (plR s t p)) := by
  apply i_R_read
  have h1 : ¬ plR s t p ≤ 0 := by have := plR_pos (s := s) (t := t) (p := p); omega
  simp only [b_R_read_0, b_R_read_34, rn, lget_0, lget_s, lset_0, lset_s, q_wrongPlace, cal_some, mset_same, h1, if_false, GR_some, GR_none, GR_ite, G_ret, List.headD]
  simp
theorem q_Rread_ok (d : Nat) (t p : Int) (s : Mem) (h : plR s t p = 0) (hz : s 141 t ≤ 60) : sem (d + 3) 222 [137, t, p] s = some (s 142 (60 * t + p), mset s 137 2 0) := by
  obtain ⟨ht, -, hp1, hp2⟩ := plR_ok h
  apply i_R_read
  have e0 : wr (60 * t) = 60 * t := wr_e (by omega) (by omega)
  have e2 : wr (60 * t + p) = 60 * t + p := wr_e (by omega) (by omega)
  have e4 : 0 ≤ 60 * t + p ∧ 60 * t + p < 240 := by omega
  have e5 : mset s 137 (2 : Nat) 0 142 (60 * t + p) = s 142 (60 * t + p) := by unfold mset; rw [if_neg (by decide)]
  simp only [b_R_read_0, b_R_read_23, b_R_read_34, rn, lget_0, lget_s, lset_0, lset_s, q_wrongPlace, cal_some, h, mset_same, Int.le_refl, if_true, show (137 : Int) + 5 = 142 from rfl, alen_142, e0, e2, e4, e5, and_self, GR_some, GR_none, GR_ite, G_ret, List.headD]
  simp
