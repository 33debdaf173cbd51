/-! ===== H2: tray, on both objects ===== -/
def trOk (t so ma : Int) : Prop := (0 ≤ t ∧ t < 4) ∧ (0 ≤ so ∧ so ≤ 3) ∧ (0 ≤ ma ∧ ma ≤ 60)
theorem q_isTray (d : Nat) (t : Int) (s : Mem) : sem (d + 1) 217 [t] s = some (if 0 ≤ t ∧ t < 4 then 1 else 0, s) := by
  apply i_R_isTray
  simp only [b_R_isTray_0, b_R_isTray_13, b_R_isTray_14, rn, lget_0, lget_s, lset_0, lset_s, GR_some, GR_none, GR_ite, G_ret, List.headD]
  by_cases h1 : t < 0
  · rw [if_pos h1, if_neg (by omega : ¬ (0 ≤ t ∧ t < 4))]; simp
  · by_cases h2 : 4 ≤ t
    · rw [if_neg h1, if_pos h2, if_neg (by omega : ¬ (0 ≤ t ∧ t < 4))]; simp
    · rw [if_neg h1, if_neg h2, if_pos (by omega : 0 ≤ t ∧ t < 4)]; simp
theorem q_is (d : Nat) (h w : Int) (s : Mem) : sem (d + 1) 218 [h, w] s = some (if w = 0 then 1 else 0, mset s h 2 w) := by
  apply i_R_is
  simp only [b_R_is_0, b_R_is_13, b_R_is_14, rn, lget_0, lget_s, lset_0, lset_s, GR_some, GR_none, GR_ite, G_ret, List.headD]
  by_cases h1 : w = 0
  · subst h1; simp
  · simp [h1]
theorem Rtray_loop (d : Nat) (t so ma : Int) (ht : 0 ≤ t ∧ t < 4) (hm : 0 ≤ ma ∧ ma ≤ 60) : ∀ (n : Nat) (k : Int) (s u : Mem) (r : Int), 0 ≤ k → k + n = ma → G (sem d) o_R_tray 74 [] [137, t, so, ma, ma] (zf s 142 (60 * t + k) (60 * t + ma)) r u → G (sem d) o_R_tray 49 [] [137, t, so, ma, k] s r u := by
  intro n
  induction n with
  | zero =>
    intro k s u r h0 hk h
    have e : k = ma := by omega
    subst e
    rw [zf_nil] at h
    unfold G
    rw [b_R_tray_49]
    simp only [rn, lget_0, lget_s, GR_some, Int.le_refl, if_true]
    exact h
  | succ n ih =>
    intro k s u r h0 hk h
    have e1 : ¬ ma ≤ k := by omega
    have e0 : wr (60 * t) = 60 * t := wr_e (by omega) (by omega)
    have e2 : wr (60 * t + k) = 60 * t + k := wr_e (by omega) (by omega)
    have e3 : wr (k + 1) = k + 1 := wr_e (by omega) (by omega)
    have e4 : 0 ≤ 60 * t + k ∧ 60 * t + k < 240 := by omega
    unfold G
    rw [b_R_tray_49]
    simp only [rn, lget_0, lget_s, lset_0, lset_s, GR_some, e1, if_false, e0, e2, e3, show (137 : Int) + 5 = 142 from rfl, alen_142, e4, and_self, if_true]
    refine ih (k + 1) _ u r (by omega) (by omega) ?_
    rw [show 60 * t + (k + 1) = 60 * t + k + 1 by omega, zf_step _ _ _ _ (by omega)]
    exact h
theorem q_Rtray_ok (d : Nat) (t so ma : Int) (h : trOk t so ma) (s : Mem) : sem (d + 2) 216 [137, t, so, ma] s = some (1, mset (zf (mset (mset s 140 t so) 141 t ma) 142 (60 * t) (60 * t + ma)) 137 2 0) := by
  obtain ⟨ht, hso, hm⟩ := h
  apply i_R_tray
  unfold G
  rw [b_R_tray_0]
  have c1 : ¬ so < 0 := by omega
  have c2 : ¬ 3 < so := by omega
  have c3 : ¬ ma < 0 := by omega
  have c4 : ma ≤ 60 := by omega
  simp only [rn, lget_0, lget_s, q_isTray, ht, and_self, if_true, cal_some, show ¬ ((1 : Int) = 0) by decide, if_false, c1, c2, c3, c4, GR_some]
  rw [b_R_tray_32]
  simp only [rn, lget_0, lget_s, lset_0, lset_s, show (137 : Int) + 3 = 140 from rfl, show (137 : Int) + 4 = 141 from rfl, alen_140, alen_141, ht, and_self, if_true, GR_some]
  refine Rtray_loop (d + 1) t so ma ht hm ma.toNat 0 _ _ _ (by omega) (by omega) ?_
  unfold G
  rw [b_R_tray_74]
  simp only [rn, lget_0, lget_s, q_is, if_true, cal_some, GR_ite, GR_some, GR_none, G_ret, List.headD, Int.add_zero]
  simp
theorem q_Mtray_ok (d : Nat) (t so ma : Int) (h : trOk t so ma) (s : Mem) : sem (d + 2) 3 [0, t, so, ma] s = some (1, mset (zf (mset (mset s 4 t so) 5 t ma) 6 (t * 60) (t * 60 + 60)) 0 0 0) := by
  obtain ⟨ht, hso, hm⟩ := h
  apply i_M_tray
  have c1 : ¬ so < 0 := by omega
  have c2 : ¬ 3 < so := by omega
  have c3 : ¬ ma < 0 := by omega
  have c4 : ma ≤ 60 := by omega
  simp only [b_M_tray_0, b_M_tray_36, rn, lget_0, lget_s, show (0 : Int) + 3 = 3 from rfl, q_isOne, q_lay _ _ _ _ ht, q_grant, ht, and_self, if_true, cal_some, show ¬ ((1 : Int) = 0) by decide, if_false, c1, c2, c3, c4, GR_some, GR_ite, GR_none, G_ret, List.headD]
  simp
