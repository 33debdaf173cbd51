/-! ===== H2: mornings, an end is added ===== -/
theorem NmU_c {s t u w : Mem} (ht : ∀ c i, 37 ≤ c ∧ c ≤ 38 → t c i = s c i) (hw : ∀ i, i = 0 ∨ i = 2 ∨ i = 3 → w 138 i = u 138 i) (hn : ∀ i, w 139 i = u 139 i) (h : NmU s u) : NmU t w := by
  unfold NmU at h ⊢
  rw [hw 0 (by omega), hw 2 (by omega), hw 3 (by omega), ht 37 1 (by omega), ht 37 3 (by omega), ht 37 4 (by omega)]
  refine ⟨h.1, h.2.1, fun i hi => ?_, fun i hi => ?_, fun i hi => ?_⟩
  · rw [hn, ht 38 _ (by omega)]; exact h.2.2.1 i hi
  · rw [hn, ht 38 _ (by omega)]; exact h.2.2.2.1 i hi
  · rw [hn, ht 38 _ (by omega)]; exact h.2.2.2.2 i hi
theorem MI_end {T : Int → Int} {n p p' m l : Int} {s u0 u t w : Mem} (h : MI T n s u0 u p) (he : 0 < s 10 2) (hm : s 69 2 = m) (hl : s 11 (s 10 2 - 1) = l) (tf : ∀ c i, ¬ (c = 7 ∧ 3 ≤ i ∧ i ≤ 9) → ¬ (c = 10 ∧ i = 2) → ¬ (c = 70 ∧ i = m) → ¬ (c = 76 ∧ (i = m ∨ i = l)) → ¬ (c = 69 ∧ i = 2) → t c i = s c i) (t102 : t 10 2 = s 10 2 - 1) (t70 : t 70 m = 19) (t76m : t 76 m = l) (t76l : t 76 l = m) (t692 : t 69 2 = m + 1) (wf : ∀ c i, ¬ (c = 137 ∧ ((12 ≤ i ∧ i ≤ 15) ∨ i = 22 ∨ i = 23)) → ¬ (c = 138 ∧ (i = 3479 ∨ (3972 + 6 * m ≤ i ∧ i ≤ 3972 + 6 * m + 5) ∨ i = 3972 + 6 * l + 4)) → w c i = u c i) (w9 : w 138 3479 = m + 1) (w22 : w 137 22 = s 10 2 - 1) (w23 : w 137 23 = u 137 23) (wq : w 138 (3972 + 6 * m) = 17) (wq4 : w 138 (3972 + 6 * m + 4) = l) (wl4 : w 138 (3972 + 6 * l + 4) = m) (hr : Rs_ T n p' w) : MI T n t u0 w p' := by
  obtain ⟨hn, -, hf, hc, hu, hS, hM⟩ := h
  rw [hm] at hc hS hM
  have lb := (hS.1 (s 10 2 - 1) (by omega)).1
  have lop := (hS.1 (s 10 2 - 1) (by omega)).2
  rw [hl] at lb lop
  have l19 : s 70 l ≠ 19 := fun e => by unfold opW at lop; omega
  have t691 : t 69 1 = s 69 1 := tf _ _ (by omega) (by omega) (by omega) (by omega) (by omega)
  have t11 : ∀ j, t 11 j = s 11 j := fun j => tf _ _ (by omega) (by omega) (by omega) (by omega) (by omega)
  have hst : stk (s 11) (s 10 2) l := ⟨s 10 2 - 1, by omega, hl⟩
  refine ⟨NmU_c (fun c i h => tf c i (by omega) (by omega) (by omega) (by omega) (by omega)) (fun i hi => wf _ _ (by omega) (by omega)) (fun i => wf _ _ (by omega) (by omega)) hn, hr, fun c i a b e g => ?_, by rw [t692, t691, t102]; omega, ⟨by rw [w9, t692], by rw [w23, t691]; exact hu.2.1, by rw [w22, t102], fun j hj => ?_⟩, ?_, fun k hk => ?_⟩
  · rw [wf c i (by omega) (by omega)]; exact hf c i a b e g
  · rw [t102] at hj
    rw [wf _ _ (by omega) (by omega), t11]; exact hu.2.2.2 j (by omega)
  · rw [t692, t102]
    exact SI_end (by omega) he hS hl (fun k hk => tf _ _ (by omega) (by omega) (by omega) (by omega) (by omega)) t70 (fun k hk hkl => tf _ _ (by omega) (by omega) (by omega) (by omega) (by omega)) t76m t76l (fun j _ => t11 j)
  · rw [t692] at hk
    rw [t102]
    by_cases c : k = m
    · rw [c]; exact Or.inl ⟨t70, wq, by rw [wq4, t76m]⟩
    · have hkm : 0 ≤ k ∧ k < m := by omega
      refine MRow_c (e := s 10 2) (tf _ _ (by omega) (by omega) (by omega) (by omega) (by omega)) (tf _ _ (by omega) (by omega) (by omega) (by omega) (by omega)) (tf _ _ (by omega) (by omega) (by omega) (by omega) (by omega)) (tf _ _ (by omega) (by omega) (by omega) (by omega) (by omega)) (fun c hc => tf _ _ (by omega) (by omega) (by omega) (by omega) (by omega)) (fun j hj h4 => wf _ _ (by omega) (by omega)) (fun g1 g2 => ?_) (fun ho hs hg => ?_) (hM k hkm)
      · have ckl : k ≠ l := fun e => by rw [e] at g1; exact l19 g1
        rw [wf _ _ (by omega) (by omega), tf 76 k (by omega) (by omega) (by omega) (by omega) (by omega)]; exact g2
      · by_cases ckl : k = l
        · rw [ckl, wl4, t76l]
        · have hns : ¬ stk (s 11) (s 10 2) k := fun ⟨j, hj, ej⟩ => hs ⟨j, by
            have : j ≠ s 10 2 - 1 := fun e => by rw [e, hl] at ej; exact ckl ej.symm
            omega, by rw [t11]; exact ej⟩
          rw [wf _ _ (by omega) (by omega), tf 76 k (by omega) (by omega) (by omega) (by omega) (by omega)]; exact hg hns
