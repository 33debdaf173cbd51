/-! ===== H2: mornings, how steps nest ===== -/
def opW (W : Int → Int) (k : Int) : Prop := W k = 15 ∨ W k = 18
def stk (S : Int → Int) (e k : Int) : Prop := ∃ j, (0 ≤ j ∧ j < e) ∧ S j = k
def SI (W K S : Int → Int) (m e : Int) : Prop :=
  (∀ j, 0 ≤ j ∧ j < e → (0 ≤ S j ∧ S j < m) ∧ opW W (S j)) ∧
  (∀ i j, 0 ≤ i → i < j → j < e → S i < S j) ∧
  (∀ k, 0 ≤ k ∧ k < m → W k = 19 → (0 ≤ K k ∧ K k < k) ∧ opW W (K k) ∧ K (K k) = k ∧ ¬ stk S e (K k)) ∧
  (∀ k, 0 ≤ k ∧ k < m → opW W k → stk S e k ∨ (k < K k ∧ K k < m ∧ W (K k) = 19 ∧ K (K k) = k)) ∧
  (0 < m → opW W (m - 1) → 0 < e ∧ S (e - 1) = m - 1) ∧
  (∀ n k, 0 ≤ n → n < k → k < m → opW W n → opW W k → ¬ stk S e n → k < K n → ¬ stk S e k ∧ K k < K n) ∧
  (∀ k, 0 ≤ k → k + 1 < m → opW W k → W (k + 1) = 19 → K (k + 1) = k)
theorem op_c {W W' : Int → Int} {k : Int} (h : W' k = W k) : opW W' k ↔ opW W k := by unfold opW; rw [h]
theorem SI_0 (W K S : Int → Int) : SI W K S 0 0 := ⟨fun j h => by omega, fun i j a b c => by omega, fun k h => by omega, fun k h => by omega, fun h => by omega, fun n k a b c => by omega, fun k a b => by omega⟩
theorem SI_plain {W K S W' K' S' : Int → Int} {m e : Int} (hm : 0 ≤ m) (h : SI W K S m e) (hW : ∀ k, 0 ≤ k ∧ k < m → W' k = W k) (hw : W' m ≠ 19) (ho : ¬ opW W' m) (hK : ∀ k, 0 ≤ k ∧ k < m → K' k = K k) (hS : ∀ j, 0 ≤ j ∧ j < e → S' j = S j) : SI W' K' S' (m + 1) e := by
  obtain ⟨a1, a2, a3, a4, a5, a6, a7⟩ := h
  have st : ∀ k, stk S' e k ↔ stk S e k := fun k => ⟨fun ⟨j, hj, e⟩ => ⟨j, hj, by rw [← hS j hj]; exact e⟩, fun ⟨j, hj, e⟩ => ⟨j, hj, by rw [hS j hj]; exact e⟩⟩
  have cl : ∀ k, 0 ≤ k ∧ k < m → opW W' k → opW W k := fun k hk => (op_c (hW k hk)).1
  refine ⟨fun j hj => ?_, fun i j x y z => ?_, fun k hk hw19 => ?_, fun k hk hok => ?_, fun _ hop => ?_, fun n k x y z on ok hns hlt => ?_, fun k x y ok h19 => ?_⟩
  · obtain ⟨b1, b2⟩ := a1 j hj
    rw [hS j hj]
    exact ⟨by omega, (op_c (hW _ b1)).2 b2⟩
  · rw [hS i (by omega), hS j (by omega)]; exact a2 i j x y z
  · have hk' : k ≠ m := fun e => by rw [e] at hw19; exact hw hw19
    have hkm : 0 ≤ k ∧ k < m := by omega
    rw [hW k hkm] at hw19
    obtain ⟨b1, b2, b3, b4⟩ := a3 k hkm hw19
    rw [hK k hkm]
    exact ⟨b1, (op_c (hW _ (by omega))).2 b2, by rw [hK _ (by omega)]; exact b3, fun h => b4 ((st _).1 h)⟩
  · have hk' : k ≠ m := fun e => by rw [e] at hok; exact ho hok
    have hkm : 0 ≤ k ∧ k < m := by omega
    rcases a4 k hkm (cl k hkm hok) with b | ⟨b1, b2, b3, b4⟩
    · exact Or.inl ((st k).2 b)
    · right
      rw [hK k hkm]
      exact ⟨b1, by omega, by rw [hW _ (by omega)]; exact b3, by rw [hK _ (by omega)]; exact b4⟩
  · rw [show m + 1 - 1 = m by omega] at hop; exact absurd hop ho
  · have hk' : k ≠ m := fun e => by rw [e] at ok; exact ho ok
    rw [hK n (by omega)] at hlt
    obtain ⟨b1, b2⟩ := a6 n k x y (by omega) (cl n (by omega) on) (cl k (by omega) ok) (fun h => hns ((st n).2 h)) hlt
    exact ⟨fun h => b1 ((st k).1 h), by rw [hK k (by omega), hK n (by omega)]; exact b2⟩
  · have hk' : k + 1 ≠ m := fun e => by rw [e] at h19; exact hw h19
    rw [hW _ (by omega)] at h19
    rw [hK _ (by omega)]
    exact a7 k x (by omega) (cl k (by omega) ok) h19
theorem SI_open {W K S W' K' S' : Int → Int} {m e : Int} (hm : 0 ≤ m) (he : 0 ≤ e) (h : SI W K S m e) (hW : ∀ k, 0 ≤ k ∧ k < m → W' k = W k) (ho : opW W' m) (hK : ∀ k, 0 ≤ k ∧ k < m → K' k = K k) (hS : ∀ j, 0 ≤ j ∧ j < e → S' j = S j) (hSe : S' e = m) : SI W' K' S' (m + 1) (e + 1) := by
  obtain ⟨a1, a2, a3, a4, a5, a6, a7⟩ := h
  have w19 : W' m ≠ 19 := by unfold opW at ho; omega
  have st : ∀ k, stk S' (e + 1) k ↔ (stk S e k ∨ k = m) := fun k => ⟨fun ⟨j, hj, e'⟩ => by
      by_cases c : j = e
      · right; rw [c, hSe] at e'; exact e'.symm
      · left; exact ⟨j, by omega, by rw [← hS j (by omega)]; exact e'⟩, fun h => by
      rcases h with ⟨j, hj, e'⟩ | h
      · exact ⟨j, by omega, by rw [hS j hj]; exact e'⟩
      · exact ⟨e, by omega, by rw [hSe]; exact h.symm⟩⟩
  have cl : ∀ k, 0 ≤ k ∧ k < m → opW W' k → opW W k := fun k hk => (op_c (hW k hk)).1
  refine ⟨fun j hj => ?_, fun i j x y z => ?_, fun k hk hw19 => ?_, fun k hk hok => ?_, fun _ hop => ?_, fun n k x y z on ok hns hlt => ?_, fun k x y ok h19 => ?_⟩
  · by_cases c : j = e
    · rw [c, hSe]; exact ⟨by omega, ho⟩
    · obtain ⟨b1, b2⟩ := a1 j (by omega)
      rw [hS j (by omega)]
      exact ⟨by omega, (op_c (hW _ b1)).2 b2⟩
  · by_cases c : j = e
    · rw [c, hSe, hS i (by omega)]; have := (a1 i (by omega)).1; omega
    · rw [hS i (by omega), hS j (by omega)]; exact a2 i j x y (by omega)
  · have hk' : k ≠ m := fun e => by rw [e] at hw19; exact w19 hw19
    have hkm : 0 ≤ k ∧ k < m := by omega
    rw [hW k hkm] at hw19
    obtain ⟨b1, b2, b3, b4⟩ := a3 k hkm hw19
    rw [hK k hkm]
    exact ⟨b1, (op_c (hW _ (by omega))).2 b2, by rw [hK _ (by omega)]; exact b3, fun h => by
      rcases (st _).1 h with g | g
      · exact b4 g
      · omega⟩
  · by_cases c : k = m
    · exact Or.inl ((st k).2 (Or.inr c))
    · have hkm : 0 ≤ k ∧ k < m := by omega
      rcases a4 k hkm (cl k hkm hok) with b | ⟨b1, b2, b3, b4⟩
      · exact Or.inl ((st k).2 (Or.inl b))
      · right
        rw [hK k hkm]
        exact ⟨b1, by omega, by rw [hW _ (by omega)]; exact b3, by rw [hK _ (by omega)]; exact b4⟩
  · exact ⟨by omega, by rw [show e + 1 - 1 = e by omega, hSe]; omega⟩
  · have hn' : n ≠ m := by omega
    rw [hK n (by omega)] at hlt
    by_cases c : k = m
    · exfalso
      rcases a4 n (by omega) (cl n (by omega) on) with b | ⟨b1, b2, b3, b4⟩
      · exact hns ((st n).2 (Or.inl b))
      · omega
    · obtain ⟨b1, b2⟩ := a6 n k x y (by omega) (cl n (by omega) on) (cl k (by omega) ok) (fun h => hns ((st n).2 (Or.inl h))) hlt
      exact ⟨fun h => by
        rcases (st k).1 h with g | g
        · exact b1 g
        · exact c g, by rw [hK k (by omega), hK n (by omega)]; exact b2⟩
  · have hk' : k + 1 ≠ m := fun e => by rw [e] at h19; exact w19 h19
    rw [hW _ (by omega)] at h19
    rw [hK _ (by omega)]
    exact a7 k x (by omega) (cl k (by omega) ok) h19
theorem SI_end {W K S W' K' S' : Int → Int} {m e l : Int} (hm : 0 ≤ m) (he : 0 < e) (h : SI W K S m e) (hl : S (e - 1) = l) (hW : ∀ k, 0 ≤ k ∧ k < m → W' k = W k) (h19 : W' m = 19) (hK : ∀ k, 0 ≤ k ∧ k < m → k ≠ l → K' k = K k) (hKm : K' m = l) (hKl : K' l = m) (hS : ∀ j, 0 ≤ j ∧ j < e - 1 → S' j = S j) : SI W' K' S' (m + 1) (e - 1) := by
  obtain ⟨a1, a2, a3, a4, a5, a6, a7⟩ := h
  have lb := a1 (e - 1) (by omega)
  rw [hl] at lb
  have ls : stk S e l := ⟨e - 1, by omega, hl⟩
  have nom : ¬ opW W' m := fun h => by unfold opW at h; omega
  have st : ∀ k, stk S' (e - 1) k ↔ (stk S e k ∧ k ≠ l) := fun k => ⟨fun ⟨j, hj, e'⟩ => by
      rw [hS j hj] at e'
      have := a2 j (e - 1) hj.1 hj.2 (by omega)
      exact ⟨⟨j, by omega, e'⟩, by omega⟩, fun ⟨⟨j, hj, e'⟩, hne⟩ => by
      have hj2 : j ≠ e - 1 := fun c => by rw [c, hl] at e'; exact hne e'.symm
      exact ⟨j, by omega, by rw [hS j (by omega)]; exact e'⟩⟩
  have cl : ∀ k, 0 ≤ k ∧ k < m → opW W' k → opW W k := fun k hk => (op_c (hW k hk)).1
  have n19 : ∀ k, W k = 19 → ¬ opW W k := fun k h1 h2 => by unfold opW at h2; omega
  refine ⟨fun j hj => ?_, fun i j x y z => ?_, fun k hk hw19 => ?_, fun k hk hok => ?_, fun _ hop => ?_, fun n k x y z on ok hns hlt => ?_, fun k x y ok h19' => ?_⟩
  · obtain ⟨b1, b2⟩ := a1 j (by omega)
    rw [hS j hj]
    exact ⟨by omega, (op_c (hW _ b1)).2 b2⟩
  · rw [hS i (by omega), hS j (by omega)]; exact a2 i j x y (by omega)
  · by_cases c : k = m
    · rw [c, hKm]
      exact ⟨by omega, (op_c (hW _ (by omega))).2 lb.2, hKl, fun h => ((st l).1 h).2 rfl⟩
    · have hkm : 0 ≤ k ∧ k < m := by omega
      rw [hW k hkm] at hw19
      obtain ⟨b1, b2, b3, b4⟩ := a3 k hkm hw19
      have hkl : k ≠ l := fun e' => by rw [e'] at hw19; exact n19 l hw19 lb.2
      have hKl2 : K k ≠ l := fun e' => by rw [e'] at b4; exact b4 ls
      rw [hK k hkm hkl]
      exact ⟨b1, (op_c (hW _ (by omega))).2 b2, by rw [hK _ (by omega) hKl2]; exact b3, fun h => b4 ((st _).1 h).1⟩
  · have hk' : k ≠ m := fun e' => by rw [e'] at hok; exact nom hok
    have hkm : 0 ≤ k ∧ k < m := by omega
    by_cases c : k = l
    · right; rw [c, hKl]; exact ⟨by omega, by omega, h19, hKm⟩
    · rcases a4 k hkm (cl k hkm hok) with b | ⟨b1, b2, b3, b4⟩
      · exact Or.inl ((st k).2 ⟨b, c⟩)
      · right
        have hkl : K k ≠ l := fun e' => by rw [e'] at b3; exact n19 l b3 lb.2
        rw [hK k hkm c]
        exact ⟨b1, by omega, by rw [hW _ (by omega)]; exact b3, by rw [hK _ (by omega) hkl]; exact b4⟩
  · rw [show m + 1 - 1 = m by omega] at hop; exact absurd hop nom
  · have hk' : k ≠ m := fun e' => by rw [e'] at ok; exact nom ok
    have okW := cl k (by omega) ok
    have onW := cl n (by omega) on
    by_cases c : n = l
    · have nsk : ¬ stk S e k := fun ⟨j, hj, e'⟩ => by
        by_cases cj : j = e - 1
        · rw [cj, hl] at e'; omega
        · have := a2 j (e - 1) hj.1 (by omega) (by omega)
          omega
      rcases a4 k (by omega) okW with b | ⟨b1, b2, b3, b4⟩
      · exact absurd b nsk
      · refine ⟨fun h => nsk ((st k).1 h).1, ?_⟩
        rw [c, hKl, hK k (by omega) (by omega)]; exact b2
    · have hns' : ¬ stk S e n := fun h => hns ((st n).2 ⟨h, c⟩)
      rw [hK n (by omega) c] at hlt
      obtain ⟨b1, b2⟩ := a6 n k x y (by omega) onW okW hns' hlt
      have ckl : k ≠ l := fun e' => by rw [e'] at b1; exact b1 ls
      exact ⟨fun h => b1 ((st k).1 h).1, by rw [hK k (by omega) ckl, hK n (by omega) c]; exact b2⟩
  · by_cases c : k + 1 = m
    · rw [c, hKm]
      have okW := cl k (by omega) ok
      have := a5 (by omega) (by rw [show m - 1 = k by omega]; exact okW)
      omega
    · rw [hW _ (by omega)] at h19'
      have hkl : k + 1 ≠ l := fun e' => by rw [e'] at h19'; exact n19 l h19' lb.2
      rw [hK _ (by omega) hkl]
      exact a7 k x (by omega) (cl k (by omega) ok) h19'
/-- all that is open is closed: what the hall's own row says of the links -/
theorem SI_fin {W K S : Int → Int} {m : Int} (h : SI W K S m 0) : (∀ k, 0 ≤ k ∧ k < m → opW W k → k < K k ∧ K k < m ∧ W (K k) = 19 ∧ K (K k) = k) ∧ (∀ k, 0 ≤ k ∧ k < m → W k = 19 → (0 ≤ K k ∧ K k < k) ∧ opW W (K k) ∧ K (K k) = k) ∧ (∀ k, 0 ≤ k → k < m → opW W k → W (k + 1) = 19 → K k = k + 1) ∧ ∀ n k, 0 ≤ n → n < k → k < m → opW W n → k < K n → opW W k → K k < K n := by
  obtain ⟨a1, a2, a3, a4, a5, a6, a7⟩ := h
  have ns : ∀ k, ¬ stk S 0 k := fun k ⟨j, hj, _⟩ => by omega
  have a4' : ∀ k, 0 ≤ k ∧ k < m → opW W k → k < K k ∧ K k < m ∧ W (K k) = 19 ∧ K (K k) = k := fun k hk ho => by
    rcases a4 k hk ho with b | b
    · exact absurd b (ns k)
    · exact b
  refine ⟨a4', fun k hk h19 => ?_, fun k x y ok h19 => ?_, fun n k x y z on hlt ok => (a6 n k x y z on ok (ns n) hlt).2⟩
  · obtain ⟨b1, b2, b3, -⟩ := a3 k hk h19
    exact ⟨b1, b2, b3⟩
  · have b := a4' k ⟨x, y⟩ ok
    have e := a7 k x (by omega) ok h19
    have c := (a3 (k + 1) (by omega) h19).2.2.1
    rw [e] at c; exact c
