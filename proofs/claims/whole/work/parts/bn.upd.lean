/-! ===== H2: mornings, a step is added ===== -/
theorem MI_plain {T : Int → Int} {n p p' m : Int} {s u0 u t w : Mem} (h : MI T n s u0 u p) (hm : s 69 2 = m) (h30 : s 69 1 < 30) (tf : ∀ c i, ¬ (c = 7 ∧ 3 ≤ i ∧ i ≤ 9) → ¬ (70 ≤ c ∧ c ≤ 75 ∧ i = m) → ¬ (c = 69 ∧ (i = 1 ∨ i = 2)) → t c i = s c i) (h19 : t 70 m ≠ 19) (hop : ¬ opW (t 70) m) (t692 : t 69 2 = m + 1) (t691 : t 69 1 = s 69 1 + 1) (wf : ∀ c i, ¬ (c = 137 ∧ ((12 ≤ i ∧ i ≤ 15) ∨ i = 23)) → ¬ (c = 138 ∧ (i = 3479 ∨ (3972 + 6 * m ≤ i ∧ i ≤ 3972 + 6 * m + 5))) → w c i = u c i) (w9 : w 138 3479 = m + 1) (w23 : w 137 23 = u 137 23 + 1) (hrow : RowP t t w m (t 70 m)) (hr : Rs_ T n p' w) : MI T n t u0 w p' := by
  obtain ⟨hn, -, hf, hc, hu, hS, hM⟩ := h
  rw [hm] at hc hS hM
  have t102 : t 10 2 = s 10 2 := tf _ _ (by omega) (by omega) (by omega)
  have t11 : ∀ j, t 11 j = s 11 j := fun j => tf _ _ (by omega) (by omega) (by omega)
  refine ⟨NmU_c (fun c i h => tf c i (by omega) (by omega) (by omega)) (fun i hi => wf _ _ (by omega) (by omega)) (fun i => wf _ _ (by omega) (by omega)) hn, hr, fun c i a b e g => ?_, by rw [t692, t691, t102]; omega, ⟨by rw [w9, t692], by rw [w23, t691, hu.2.1], by rw [wf _ _ (by omega) (by omega), t102]; exact hu.2.2.1, fun j hj => ?_⟩, ?_, fun k hk => ?_⟩
  · rw [wf c i (by omega) (by omega)]; exact hf c i a b e g
  · rw [t102] at hj
    rw [wf _ _ (by omega) (by omega), t11]; exact hu.2.2.2 j (by omega)
  · rw [t692, t102]
    exact SI_plain (by omega) hS (fun k hk => tf _ _ (by omega) (by omega) (by omega)) h19 hop (fun k hk => tf _ _ (by omega) (by omega) (by omega)) (fun j _ => t11 j)
  · rw [t692] at hk
    rw [t102]
    by_cases c : k = m
    · rw [c]; exact Or.inr ⟨h19, hrow, fun ho => absurd ho hop⟩
    · have hkm : 0 ≤ k ∧ k < m := by omega
      refine MRow_c (e := s 10 2) (tf _ _ (by omega) (by omega) (by omega)) (tf _ _ (by omega) (by omega) (by omega)) (tf _ _ (by omega) (by omega) (by omega)) (tf _ _ (by omega) (by omega) (by omega)) (fun c hc => tf _ _ (by omega) (by omega) (by omega)) (fun j hj h4 => wf _ _ (by omega) (by omega)) (fun g1 g2 => ?_) (fun ho hs hg => ?_) (hM k hkm)
      · rw [wf _ _ (by omega) (by omega), tf 76 k (by omega) (by omega) (by omega)]; exact g2
      · have hns : ¬ stk (s 11) (s 10 2) k := fun ⟨j, hj, ej⟩ => hs ⟨j, hj, by rw [t11]; exact ej⟩
        rw [wf _ _ (by omega) (by omega), tf 76 k (by omega) (by omega) (by omega)]; exact hg hns
theorem MI_open {T : Int → Int} {n p p' m : Int} {s u0 u t w : Mem} (h : MI T n s u0 u p) (hm : s 69 2 = m) (h30 : s 69 1 < 30) (h3 : s 10 2 < 3) (tf : ∀ c i, ¬ (c = 7 ∧ 3 ≤ i ∧ i ≤ 9) → ¬ (70 ≤ c ∧ c ≤ 75 ∧ i = m) → ¬ (c = 69 ∧ (i = 1 ∨ i = 2)) → ¬ (c = 11 ∧ i = s 10 2) → ¬ (c = 10 ∧ i = 2) → t c i = s c i) (hop : opW (t 70) m) (t692 : t 69 2 = m + 1) (t691 : t 69 1 = s 69 1 + 1) (t102 : t 10 2 = s 10 2 + 1) (t11e : t 11 (s 10 2) = m) (wf : ∀ c i, ¬ (c = 137 ∧ ((12 ≤ i ∧ i ≤ 15) ∨ i = 22 ∨ i = 23)) → ¬ (c = 138 ∧ (i = 3479 ∨ (3972 + 6 * m ≤ i ∧ i ≤ 3972 + 6 * m + 5))) → ¬ (c = 145 ∧ i = s 10 2) → w c i = u c i) (w9 : w 138 3479 = m + 1) (w23 : w 137 23 = u 137 23 + 1) (w22 : w 137 22 = s 10 2 + 1) (w145 : w 145 (s 10 2) = m) (hrow : RowP t t w m (t 70 m)) (hr : Rs_ T n p' w) : MI T n t u0 w p' := by
  obtain ⟨hn, -, hf, hc, hu, hS, hM⟩ := h
  rw [hm] at hc hS hM
  have h19 : t 70 m ≠ 19 := by unfold opW at hop; omega
  have t11 : ∀ j, j ≠ s 10 2 → t 11 j = s 11 j := fun j hj => tf _ _ (by omega) (by omega) (by omega) (by omega) (by omega)
  have mst : stk (t 11) (s 10 2 + 1) m := ⟨s 10 2, by omega, t11e⟩
  refine ⟨NmU_c (fun c i h => tf c i (by omega) (by omega) (by omega) (by omega) (by omega)) (fun i hi => wf _ _ (by omega) (by omega) (by omega)) (fun i => wf _ _ (by omega) (by omega) (by omega)) hn, hr, fun c i a b e g => ?_, by rw [t692, t691, t102]; omega, ⟨by rw [w9, t692], by rw [w23, t691, hu.2.1], by rw [w22, t102], fun j hj => ?_⟩, ?_, fun k hk => ?_⟩
  · rw [wf c i (by omega) (by omega) (by omega)]; exact hf c i a b e g
  · rw [t102] at hj
    by_cases c : j = s 10 2
    · rw [c, w145, t11e]
    · rw [wf _ _ (by omega) (by omega) (by omega), t11 j c]; exact hu.2.2.2 j (by omega)
  · rw [t692, t102]
    exact SI_open (by omega) (by omega) hS (fun k hk => tf _ _ (by omega) (by omega) (by omega) (by omega) (by omega)) hop (fun k hk => tf _ _ (by omega) (by omega) (by omega) (by omega) (by omega)) (fun j hj => t11 j (by omega)) t11e
  · rw [t692] at hk
    rw [t102]
    by_cases c : k = m
    · rw [c]; exact Or.inr ⟨h19, hrow, fun _ hs => absurd mst hs⟩
    · have hkm : 0 ≤ k ∧ k < m := by omega
      refine MRow_c (e := s 10 2) (tf _ _ (by omega) (by omega) (by omega) (by omega) (by omega)) (tf _ _ (by omega) (by omega) (by omega) (by omega) (by omega)) (tf _ _ (by omega) (by omega) (by omega) (by omega) (by omega)) (tf _ _ (by omega) (by omega) (by omega) (by omega) (by omega)) (fun c hc => tf _ _ (by omega) (by omega) (by omega) (by omega) (by omega)) (fun j hj h4 => wf _ _ (by omega) (by omega) (by omega)) (fun g1 g2 => ?_) (fun ho hs hg => ?_) (hM k hkm)
      · rw [wf _ _ (by omega) (by omega) (by omega), tf 76 k (by omega) (by omega) (by omega) (by omega) (by omega)]; exact g2
      · have hns : ¬ stk (s 11) (s 10 2) k := fun ⟨j, hj, ej⟩ => hs ⟨j, by omega, by rw [t11 j (by omega)]; exact ej⟩
        rw [wf _ _ (by omega) (by omega) (by omega), tf 76 k (by omega) (by omega) (by omega) (by omega) (by omega)]; exact hg hns
