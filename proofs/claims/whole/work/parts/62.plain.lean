/-! ===== H2: plain ===== -/
/-- a stretch of a cell set to 0 -/
def zf (s : Mem) (a lo hi : Int) : Mem := fun b => if b = a then (fun j => if lo ≤ j ∧ j < hi then 0 else s a j) else s b
theorem zf_nil (s : Mem) (a lo : Int) : zf s a lo lo = s := by
  funext b j
  unfold zf
  by_cases h : b = a
  · rw [if_pos h, if_neg (by omega), h]
  · rw [if_neg h]
theorem zf_step (s : Mem) (a lo hi : Int) (h : lo < hi) : zf (mset s a lo 0) a (lo + 1) hi = zf s a lo hi := by
  funext b j
  unfold zf mset
  by_cases hb : b = a
  · rw [if_pos hb, if_pos hb, if_pos rfl]
    by_cases h1 : lo + 1 ≤ j ∧ j < hi
    · rw [if_pos h1, if_pos (by omega)]
    · rw [if_neg h1]
      by_cases h2 : j = lo
      · rw [if_pos h2, if_pos (by omega)]
      · rw [if_neg h2, if_neg (by omega)]
  · rw [if_neg hb, if_neg hb, if_neg hb]
theorem plain_loop (d : Nat) (slot : Int) (hs : 0 ≤ slot ∧ slot + 868 ≤ 5208) : ∀ (n : Nat) (k : Int) (s t : Mem) (r : Int), 0 ≤ k → k + n = 868 → G (sem d) o_R_plain 24 [] [137, slot, 868] (zf s 138 (slot + k) (slot + 868)) r t → G (sem d) o_R_plain 2 [] [137, slot, k] s r t := by
  intro n
  induction n with
  | zero =>
    intro k s t r h0 hk h
    have e : k = 868 := by omega
    subst e
    rw [zf_nil] at h
    unfold G
    rw [b_R_plain_2]
    simp only [rn, lget_0, lget_s, GR_some, Int.le_refl, if_true]
    exact h
  | succ n ih =>
    intro k s t r h0 hk h
    have e1 : ¬ 868 ≤ k := by omega
    have e2 : wr (slot + k) = slot + k := wr_e (by omega) (by omega)
    have e3 : wr (k + 1) = k + 1 := wr_e (by omega) (by omega)
    have e4 : 0 ≤ slot + k ∧ slot + k < 5208 := by omega
    unfold G
    rw [b_R_plain_2]
    simp only [rn, lget_0, lget_s, lset_0, lset_s, GR_some, e1, if_false, e2, e3, show (137 : Int) + 1 = 138 from rfl, alen_138, e4, and_self, if_true]
    refine ih (k + 1) _ t r (by omega) (by omega) ?_
    rw [show slot + (k + 1) = slot + k + 1 by omega, zf_step _ _ _ _ (by omega)]
    exact h
/-- plain(slot) -/
def plainT (s : Mem) (slot : Int) : Mem := mset (mset (zf s 138 slot (slot + 868)) 138 (slot + 5) 4) 138 (slot + 7) (-1)
theorem q_plain (d : Nat) (slot : Int) (hs : 0 ≤ slot ∧ slot + 868 ≤ 5208) (s : Mem) : sem (d + 1) 212 [137, slot] s = some (0, plainT s slot) := by
  apply i_R_plain
  unfold G
  rw [b_R_plain_0]
  simp only [rn, lget_0, lget_s, lset_0, lset_s, GR_some]
  refine plain_loop d slot hs 868 0 s _ _ (by omega) (by omega) ?_
  have e2 : wr (slot + 5) = slot + 5 := wr_e (by omega) (by omega)
  have e3 : wr (slot + 7) = slot + 7 := wr_e (by omega) (by omega)
  have e4 : 0 ≤ slot + 5 ∧ slot + 5 < 5208 := by omega
  have e5 : 0 ≤ slot + 7 ∧ slot + 7 < 5208 := by omega
  unfold G
  rw [b_R_plain_24]
  simp only [rn, lget_0, lget_s, lset_0, lset_s, GR_some, e2, e3, show (137 : Int) + 1 = 138 from rfl, alen_138, e4, e5, and_self, if_true, G_ret, List.headD, Int.add_zero]
  exact ⟨trivial, rfl⟩
