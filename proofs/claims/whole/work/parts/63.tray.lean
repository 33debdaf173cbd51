/-! ===== H2: laying a tray ===== -/
theorem lay_loop (d : Nat) (t so ma : Int) (ht : 0 ≤ t ∧ t < 4) : ∀ (n : Nat) (k : Int) (s u : Mem) (r : Int), 0 ≤ k → k + n = 60 → G (sem d) o_Trays_lay 43 [] [3, t, so, ma, 60] (zf s 6 (t * 60 + k) (t * 60 + 60)) r u → G (sem d) o_Trays_lay 17 [] [3, t, so, ma, k] s r u := by
  intro n
  induction n with
  | zero =>
    intro k s u r h0 hk h
    have e : k = 60 := by omega
    subst e
    rw [zf_nil] at h
    unfold G
    rw [b_Trays_lay_17]
    simp only [rn, lget_0, lget_s, GR_some, Int.le_refl, if_true]
    exact h
  | succ n ih =>
    intro k s u r h0 hk h
    have e1 : ¬ 60 ≤ k := by omega
    have e0 : wr (t * 60) = t * 60 := wr_e (by omega) (by omega)
    have e2 : wr (t * 60 + k) = t * 60 + k := wr_e (by omega) (by omega)
    have e3 : wr (k + 1) = k + 1 := wr_e (by omega) (by omega)
    have e4 : 0 ≤ t * 60 + k ∧ t * 60 + k < 240 := by omega
    unfold G
    rw [b_Trays_lay_17]
    simp only [rn, lget_0, lget_s, lset_0, lset_s, GR_some, e1, if_false, e0, e2, e3, show (3 : Int) + 3 = 6 from rfl, alen_6, e4, and_self, if_true]
    refine ih (k + 1) _ u r (by omega) (by omega) ?_
    rw [show t * 60 + (k + 1) = t * 60 + k + 1 by omega, zf_step _ _ _ _ (by omega)]
    exact h
theorem q_lay (d : Nat) (t so ma : Int) (ht : 0 ≤ t ∧ t < 4) (s : Mem) : sem (d + 1) m_Trays_lay [3, t, so, ma] s = some (0, zf (mset (mset s 4 t so) 5 t ma) 6 (t * 60) (t * 60 + 60)) := by
  apply i_Trays_lay
  unfold G
  rw [b_Trays_lay_0]
  simp only [rn, lget_0, lget_s, lset_0, lset_s, GR_some, show (3 : Int) + 1 = 4 from rfl, show (3 : Int) + 2 = 5 from rfl, alen_4, alen_5, ht, and_self, if_true]
  refine lay_loop d t so ma ht 60 0 _ _ _ (by omega) (by omega) ?_
  unfold G
  rw [b_Trays_lay_43]
  simp only [rn, GR_some, G_ret, List.headD, Int.add_zero]
  exact ⟨trivial, trivial⟩
