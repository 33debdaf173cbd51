/-! ===== H2: the reference notes an answer ===== -/
theorem wr_1 (x y : Int) : wr (wr x + y) = wr (x + y) := by unfold wr; omega
theorem wr_b (x : Int) : -2147483648 ≤ wr x ∧ wr x < 2147483648 := by unfold wr; omega
def sortF (g c : Int → Int) (m : Int) : Prop := (∀ i j, 0 ≤ i → i < j → j < m → g i < g j) ∧ ∀ v, (∃ j, (0 ≤ j ∧ j < m) ∧ g j = v) ↔ ∃ j, (0 ≤ j ∧ j < m) ∧ c j = v
theorem sortF_ins {g g' c : Int → Int} {i a : Int} (hs : sortF g c i) (h0 : 0 ≤ i) (hd : ∀ j, 0 ≤ j → j < i → c j ≠ c i) (ha : 0 ≤ a ∧ a ≤ i) (h1 : ∀ j, 0 ≤ j ∧ j < a → g' j = g j) (h2 : g' a = c i) (h3 : ∀ j, a < j ∧ j ≤ i → g' j = g (j - 1)) (h4 : ∀ j, a ≤ j ∧ j < i → c i < g j) (h5 : ∀ j, 0 ≤ j ∧ j < a → g j ≤ c i) : sortF g' c (i + 1) := by
  refine ⟨fun p q hp hpq hq => ?_, fun v => ⟨?_, ?_⟩⟩
  · have hne : ∀ j, 0 ≤ j ∧ j < i → g j ≠ c i := fun j hj he => by
      obtain ⟨j', hj', e'⟩ := (hs.2 (g j)).1 ⟨j, hj, rfl⟩
      exact hd j' (by omega) (by omega) (by rw [e', he])
    by_cases c1 : q < a
    · rw [h1 p (by omega), h1 q (by omega)]; exact hs.1 p q hp hpq (by omega)
    · by_cases c2 : q = a
      · rw [c2, h2, h1 p (by omega)]
        have := h5 p (by omega)
        have := hne p (by omega)
        omega
      · rw [h3 q (by omega)]
        by_cases c3 : p < a
        · rw [h1 p (by omega)]; exact hs.1 p (q - 1) hp (by omega) (by omega)
        · by_cases c4 : p = a
          · rw [c4, h2]; exact h4 (q - 1) (by omega)
          · rw [h3 p (by omega)]; exact hs.1 (p - 1) (q - 1) (by omega) (by omega) (by omega)
  · rintro ⟨j, hj, e⟩
    by_cases c1 : j < a
    · rw [h1 j (by omega)] at e
      obtain ⟨j', hj', e'⟩ := (hs.2 v).1 ⟨j, by omega, e⟩
      exact ⟨j', by omega, e'⟩
    · by_cases c2 : j = a
      · rw [c2, h2] at e
        exact ⟨i, by omega, e⟩
      · rw [h3 j (by omega)] at e
        obtain ⟨j', hj', e'⟩ := (hs.2 v).1 ⟨j - 1, by omega, e⟩
        exact ⟨j', by omega, e'⟩
  · rintro ⟨j, hj, e⟩
    by_cases c : j = i
    · rw [c] at e
      exact ⟨a, by omega, by rw [h2]; exact e⟩
    · obtain ⟨j', hj', e'⟩ := (hs.2 v).2 ⟨j, by omega, e⟩
      by_cases c1 : j' < a
      · exact ⟨j', by omega, by rw [h1 j' (by omega)]; exact e'⟩
      · exact ⟨j' + 1, by omega, by rw [h3 (j' + 1) (by omega), show j' + 1 - 1 = j' by omega]; exact e'⟩
theorem lp_fd35 (d : Nat) (s : Mem) (g : Int → Int) (m i v hs z5 : Int) (hm : m ≤ 4) (hi : 0 ≤ i ∧ i < m) (hv : s 149 i = v) (hg : ∀ a b, 0 ≤ a → a < b → b < i → g a < g b) (Q : Int → Mem → Prop) (hQ : ∀ t at_, (0 ≤ at_ ∧ at_ ≤ i) → (∀ c j, c ≠ 150 → t c j = s c j) → (∀ j, 0 ≤ j ∧ j < at_ → t 150 j = g j) → t 150 at_ = v → (∀ j, at_ < j ∧ j ≤ i → t 150 j = g (j - 1)) → (∀ j, at_ ≤ j ∧ j < i → v < g j) → (∀ j, 0 ≤ j ∧ j < at_ → g j ≤ v) → EV d o_R_finds 4 [] [137, m, hs, i + 1, at_, z5] t Q) : ∀ (n : Nat) (t : Mem), (n : Int) ≤ i → (∀ c j, c ≠ 150 → t c j = s c j) → (∀ j, 0 ≤ j ∧ j < (n : Int) → t 150 j = g j) → (∀ j, (n : Int) < j ∧ j ≤ i → t 150 j = g (j - 1)) → (∀ j, (n : Int) ≤ j ∧ j < i → v < g j) → EV d o_R_finds 35 [] [137, m, hs, i, n, z5] t Q := by
  intro n
  induction n with
  | zero =>
    intro t hn hf h1 h2 h3
    have e16 : t 149 i = v := by rw [hf _ _ (by omega)]; exact hv
    have hq := hQ (mset t 150 0 v) 0 (by omega) (fun c j h => by rw [mset_ne (by omega)]; exact hf c j h) (fun j hj => by omega) (mset_eq rfl rfl) (fun j hj => by rw [mset_ne (by omega)]; exact h2 j (by omega)) (fun j hj => h3 j (by omega)) (fun j hj => by omega)
    rw [e_R_finds_35]
    simp (disch := first | assumption | omega) only [rn, wk, al, wr_e, td_e, tm_e, mset_eq, mset_ne, if_pos, if_neg, Int.reduceAdd, Int.reduceSub, Int.reduceMul, Int.reduceNeg, Int.reduceLT, Int.reduceLE, Int.reduceEq, Int.cast_ofNat_Int, eq_self, and_true, true_and, ite_self, true_or, or_true, false_or, or_false, and_false, false_and, not_true_eq_false, not_false_eq_true, if_true, if_false, e_R_finds_0, e_R_finds_26, e_R_finds_30, e_R_finds_31, e_R_finds_80, e_R_finds_122, e_R_finds_123, e_R_finds_183, e_R_finds_219, e_R_finds_223, e_R_finds_224, e_R_finds_232, e_R_finds_266, e16]
    exact hq
  | succ n ih =>
    intro t hn hf h1 h2 h3
    have en : ((n + 1 : Nat) : Int) = (n : Int) + 1 := by omega
    rw [en] at *
    have e16 : t 149 i = v := by rw [hf _ _ (by omega)]; exact hv
    have e17 := h1 n (by omega)
    have em : (n : Int) + 1 - 1 = n := by omega
    rw [e_R_finds_35]
    by_cases c : v < g n
    · have hx := ih (mset t 150 ((n : Int) + 1) (g n)) (by omega) (fun c j h => by rw [mset_ne (by omega)]; exact hf c j h) (fun j hj => by rw [mset_ne (by omega)]; exact h1 j (by omega)) (fun j hj => by
        by_cases e : j = (n : Int) + 1
        · rw [e, mset_eq rfl rfl, em]
        · rw [mset_ne (by omega)]; exact h2 j (by omega)) (fun j hj => by
        by_cases e : j = (n : Int)
        · rw [e]; exact c
        · exact h3 j (by omega))
      simp (disch := first | assumption | omega) only [rn, wk, al, wr_e, td_e, tm_e, mset_eq, mset_ne, if_pos, if_neg, Int.reduceAdd, Int.reduceSub, Int.reduceMul, Int.reduceNeg, Int.reduceLT, Int.reduceLE, Int.reduceEq, Int.cast_ofNat_Int, eq_self, and_true, true_and, ite_self, true_or, or_true, false_or, or_false, and_false, false_and, not_true_eq_false, not_false_eq_true, if_true, if_false, e16, em, e17]
      have e2 : (n : Int) + 1 + -1 = n := by omega
      rw [e2]
      exact hx
    · have hq := hQ (mset t 150 ((n : Int) + 1) v) ((n : Int) + 1) (by omega) (fun c j h => by rw [mset_ne (by omega)]; exact hf c j h) (fun j hj => by rw [mset_ne (by omega)]; exact h1 j (by omega)) (mset_eq rfl rfl) (fun j hj => by rw [mset_ne (by omega)]; exact h2 j (by omega)) (fun j hj => h3 j (by omega)) (fun j hj => by
        by_cases e : j = (n : Int)
        · rw [e]; omega
        · have := hg j n (by omega) (by omega) (by omega); omega)
      simp (disch := first | assumption | omega) only [rn, wk, al, wr_e, td_e, tm_e, mset_eq, mset_ne, if_pos, if_neg, Int.reduceAdd, Int.reduceSub, Int.reduceMul, Int.reduceNeg, Int.reduceLT, Int.reduceLE, Int.reduceEq, Int.cast_ofNat_Int, eq_self, and_true, true_and, ite_self, true_or, or_true, false_or, or_false, and_false, false_and, not_true_eq_false, not_false_eq_true, if_true, if_false, e_R_finds_0, e_R_finds_26, e_R_finds_30, e_R_finds_31, e_R_finds_80, e_R_finds_122, e_R_finds_123, e_R_finds_183, e_R_finds_219, e_R_finds_223, e_R_finds_224, e_R_finds_232, e_R_finds_266, e16, em, e17]
      exact hq
theorem lp_fd4 (d : Nat) (s : Mem) (so m z5 : Int) (hm : 0 ≤ m ∧ m ≤ 4) (h34 : s 137 34 = so) (hd : ∀ i j, 0 ≤ i → i < j → j < m → s 149 i ≠ s 149 j) (Q : Int → Mem → Prop) (hQ : ∀ t z, (∀ c j, c ≠ 150 → t c j = s c j) → sortF (t 150) (s 149) m → EV d o_R_finds 99 [] [137, m, if so ∈ tl (s 149) 0 m.toNat then 1 else 0, m, z, z5] t Q) : ∀ (n : Nat) (i : Nat) (z : Int) (t : Mem), (i : Int) + n = m → (∀ c j, c ≠ 150 → t c j = s c j) → sortF (t 150) (s 149) i → EV d o_R_finds 4 [] [137, m, if so ∈ tl (s 149) 0 i then 1 else 0, i, z, z5] t Q := by
  intro n
  induction n with
  | zero =>
    intro i z t hi hf hs
    have ei : (i : Int) = m := by omega
    have e2 : m.toNat = i := by omega
    rw [ei] at hs ⊢
    have hq := hQ t z hf hs
    rw [e2] at hq
    rw [e_R_finds_4]
    simp (disch := first | assumption | omega) only [rn, wk, al, wr_e, td_e, tm_e, mset_eq, mset_ne, if_pos, if_neg, Int.reduceAdd, Int.reduceSub, Int.reduceMul, Int.reduceNeg, Int.reduceLT, Int.reduceLE, Int.reduceEq, Int.cast_ofNat_Int, eq_self, and_true, true_and, ite_self, true_or, or_true, false_or, or_false, and_false, false_and, not_true_eq_false, not_false_eq_true, if_true, if_false]
    exact hq
  | succ n ih =>
    intro i z t hi hf hs
    have e34 : t 137 34 = so := by rw [hf _ _ (by omega)]; exact h34
    have e149 : t 149 i = s 149 i := hf _ _ (by omega)
    have en : ((i + 1 : Nat) : Int) = (i : Int) + 1 := by omega
    have hmem : so ∈ tl (s 149) 0 (i + 1) ↔ (so ∈ tl (s 149) 0 i ∨ s 149 i = so) := by
      rw [mem_tl, mem_tl]
      constructor
      · rintro ⟨j, a, b, c⟩
        by_cases e : j = (i : Int)
        · right; rw [← e]; exact c
        · left; exact ⟨j, a, by omega, c⟩
      · rintro (⟨j, a, b, c⟩ | c)
        · exact ⟨j, a, by omega, c⟩
        · exact ⟨i, by omega, by omega, c⟩
    have hin : ∀ w : Int, w = (if so ∈ tl (s 149) 0 (i + 1) then 1 else 0) → EV d o_R_finds 35 [] [137, m, w, i, i, z5] t Q := by
      intro w hw
      refine lp_fd35 d s (t 150) m i (s 149 i) w z5 hm.2 (by omega) rfl hs.1 Q (fun t' a ha f h1 h2 h3 h4 h5 => ?_) i t (by omega) hf (fun j hj => rfl) (fun j hj => by omega) (fun j hj => by omega)
      have := ih (i + 1) a t' (by omega) f (by rw [en]; exact sortF_ins hs (by omega) (fun j a b => hd j i a b (by omega)) ha h1 h2 h3 h4 h5)
      rw [en, ← hw] at this
      exact this
    rw [e_R_finds_4]
    by_cases c1 : so ∈ tl (s 149) 0 i
    · have hx := hin 1 (by rw [if_pos (hmem.2 (Or.inl c1))])
      rw [if_pos c1]
      simp (disch := first | assumption | omega) only [rn, wk, al, wr_e, td_e, tm_e, mset_eq, mset_ne, if_pos, if_neg, Int.reduceAdd, Int.reduceSub, Int.reduceMul, Int.reduceNeg, Int.reduceLT, Int.reduceLE, Int.reduceEq, Int.cast_ofNat_Int, eq_self, and_true, true_and, ite_self, true_or, or_true, false_or, or_false, and_false, false_and, not_true_eq_false, not_false_eq_true, if_true, if_false, e_R_finds_0, e_R_finds_26, e_R_finds_30, e_R_finds_31, e_R_finds_80, e_R_finds_122, e_R_finds_123, e_R_finds_183, e_R_finds_219, e_R_finds_223, e_R_finds_224, e_R_finds_232, e_R_finds_266, e34, e149]
      exact hx
    · rw [if_neg c1]
      by_cases c2 : s 149 i = so
      · have hx := hin 1 (by rw [if_pos (hmem.2 (Or.inr c2))])
        simp (disch := first | assumption | omega) only [rn, wk, al, wr_e, td_e, tm_e, mset_eq, mset_ne, if_pos, if_neg, Int.reduceAdd, Int.reduceSub, Int.reduceMul, Int.reduceNeg, Int.reduceLT, Int.reduceLE, Int.reduceEq, Int.cast_ofNat_Int, eq_self, and_true, true_and, ite_self, true_or, or_true, false_or, or_false, and_false, false_and, not_true_eq_false, not_false_eq_true, if_true, if_false, e_R_finds_0, e_R_finds_26, e_R_finds_30, e_R_finds_31, e_R_finds_80, e_R_finds_122, e_R_finds_123, e_R_finds_183, e_R_finds_219, e_R_finds_223, e_R_finds_224, e_R_finds_232, e_R_finds_266, e34, e149, c2]
        exact hx
      · have hx := hin 0 (by rw [if_neg (fun h => by
          rcases hmem.1 h with k | k
          · exact c1 k
          · exact c2 k)])
        simp (disch := first | assumption | omega) only [rn, wk, al, wr_e, td_e, tm_e, mset_eq, mset_ne, if_pos, if_neg, Int.reduceAdd, Int.reduceSub, Int.reduceMul, Int.reduceNeg, Int.reduceLT, Int.reduceLE, Int.reduceEq, Int.cast_ofNat_Int, eq_self, and_true, true_and, ite_self, true_or, or_true, false_or, or_false, and_false, false_and, not_true_eq_false, not_false_eq_true, if_true, if_false, e_R_finds_0, e_R_finds_26, e_R_finds_30, e_R_finds_31, e_R_finds_80, e_R_finds_122, e_R_finds_123, e_R_finds_183, e_R_finds_219, e_R_finds_223, e_R_finds_224, e_R_finds_232, e_R_finds_266, e34, e149]
        exact hx
def ahd : List Int → List Int → Bool
  | [], _ => true
  | _ :: _, [] => false
  | a :: s, b :: t => if a = b then ahd s t else decide (a < b)
theorem ahd_1 : ∀ s t, ahd s t = true → llt s t = true ∨ s = t
  | [], [], _ => Or.inr rfl
  | [], b :: t, _ => Or.inl rfl
  | a :: s, [], h => by simp [ahd] at h
  | a :: s, b :: t, h => by
    simp only [ahd] at h
    by_cases e : a = b
    · subst e
      rw [if_pos rfl] at h
      rcases ahd_1 s t h with k | k
      · left; simp only [llt]; rw [if_neg (by omega), if_pos trivial]; exact k
      · right; rw [k]
    · rw [if_neg e] at h
      left; simp only [llt]; rw [if_pos (by simpa using h)]
theorem ahd_0 : ∀ s t, ahd s t = false → llt s t = false
  | [], _, h => by simp [ahd] at h
  | a :: s, [], _ => rfl
  | a :: s, b :: t, h => by
    simp only [ahd] at h
    simp only [llt]
    by_cases e : a = b
    · subst e
      rw [if_pos rfl] at h
      rw [if_neg (by omega), if_pos rfl]; exact ahd_0 s t h
    · rw [if_neg e] at h
      rw [if_neg (by simpa using h), if_neg e]
theorem mn_ahd (B T : List Int) : mn_ B T = if ahd T B = true then T else B := by
  unfold mn_
  by_cases c : ahd T B = true
  · rw [if_pos c]
    rcases ahd_1 T B c with k | k
    · rw [if_pos k]
    · rw [k]; exact ite_self _
  · rw [if_neg c, if_neg (by rw [ahd_0 T B (bfl c)]; decide)]
/-- the reference's book of answers -/
def NtR (N : Ntt) (t : Mem) : Prop := t 137 32 = wr N.1 ∧ t 137 33 = wr N.2.1 ∧ (0 ≤ N.2.2.1 ∧ N.2.2.1 ≤ 5) ∧ ((N.2.2.2 = none ∧ N.2.2.1 = 5 ∧ t 137 36 = 1000000 ∧ t 137 35 = -1) ∨ ∃ B, N.2.2.2 = some B ∧ t 137 36 = N.2.2.1 ∧ (0 ≤ t 137 35 ∧ t 137 35 ≤ 4) ∧ B = tl (t 151) 0 (t 137 35).toNat)
def Ffd (s t : Mem) : Prop := ∀ c i, c ≠ 150 → c ≠ 151 → ¬ (c = 137 ∧ (i = 32 ∨ i = 33 ∨ i = 35 ∨ i = 36)) → t c i = s c i
theorem lp_fd240 (d : Nat) (m z2 z3 z4 : Int) (hm : 0 ≤ m ∧ m ≤ 4) (s : Mem) (Q : Int → Mem → Prop) (hQ : ∀ t, (∀ c i, c ≠ 151 → t c i = s c i) → (∀ j, 0 ≤ j ∧ j < m → t 151 j = s 150 j) → Q 0 t) : ∀ (n : Nat) (i : Int) (t : Mem), 0 ≤ i → i + n = m → (∀ c i, c ≠ 151 → t c i = s c i) → (∀ j, 0 ≤ j ∧ j < i → t 151 j = s 150 j) → EV d o_R_finds 240 [] [137, m, z2, z3, z4, i] t Q := by
  intro n
  induction n with
  | zero =>
    intro i t h0 hi hf h1
    have ei : i = m := by omega
    subst ei
    have hq := hQ t hf h1
    rw [e_R_finds_240]
    simp (disch := first | assumption | omega) only [rn, wk, al, wr_e, td_e, tm_e, mset_eq, mset_ne, if_pos, if_neg, Int.reduceAdd, Int.reduceSub, Int.reduceMul, Int.reduceNeg, Int.reduceLT, Int.reduceLE, Int.reduceEq, Int.cast_ofNat_Int, eq_self, and_true, true_and, ite_self, true_or, or_true, false_or, or_false, and_false, false_and, not_true_eq_false, not_false_eq_true, if_true, if_false, e_R_finds_0, e_R_finds_26, e_R_finds_30, e_R_finds_31, e_R_finds_80, e_R_finds_99, e_R_finds_122, e_R_finds_123, e_R_finds_183, e_R_finds_219, e_R_finds_223, e_R_finds_224, e_R_finds_232, e_R_finds_266]
    exact hq
  | succ n ih =>
    intro i t h0 hi hf h1
    have e150 : t 150 i = s 150 i := hf _ _ (by omega)
    have hx := ih (i + 1) (mset t 151 i (s 150 i)) (by omega) (by omega) (fun c j h => by rw [mset_ne (by omega)]; exact hf c j h) (fun j hj => by
      by_cases e : j = i
      · rw [e, mset_eq rfl rfl]
      · rw [mset_ne (by omega)]; exact h1 j (by omega))
    rw [e_R_finds_240]
    simp (disch := first | assumption | omega) only [rn, wk, al, wr_e, td_e, tm_e, mset_eq, mset_ne, if_pos, if_neg, Int.reduceAdd, Int.reduceSub, Int.reduceMul, Int.reduceNeg, Int.reduceLT, Int.reduceLE, Int.reduceEq, Int.cast_ofNat_Int, eq_self, and_true, true_and, ite_self, true_or, or_true, false_or, or_false, and_false, false_and, not_true_eq_false, not_false_eq_true, if_true, if_false, e_R_finds_0, e_R_finds_26, e_R_finds_30, e_R_finds_31, e_R_finds_80, e_R_finds_99, e_R_finds_122, e_R_finds_123, e_R_finds_183, e_R_finds_219, e_R_finds_223, e_R_finds_224, e_R_finds_232, e_R_finds_266, e150]
    exact hx
theorem lp_fd141 (d : Nat) (m z2 z5 : Int) (hm : 0 ≤ m ∧ m ≤ 4) (t : Mem) (hb : 0 ≤ t 137 35 ∧ t 137 35 ≤ 4) (Q : Int → Mem → Prop) (hA : Bool) (k1 : hA = true → ∀ i z, EV d o_R_finds 232 [] [137, m, z2, i, z, z5] t Q) (k0 : hA = false → Q 0 t) : ∀ (n k : Nat) (i z : Int), 0 ≤ i → i + n = m → i + k = t 137 35 → ahd (tl (t 150) i n) (tl (t 151) i k) = hA → EV d o_R_finds 141 [] [137, m, z2, i, z, z5] t Q := by
  intro n
  induction n with
  | zero =>
    intro k i z hi0 hi hk ha
    have e : hA = true := by rw [← ha]; rfl
    have hx := k1 e i 1
    rw [e_R_finds_141]
    simp (disch := first | assumption | omega) only [rn, wk, al, wr_e, td_e, tm_e, mset_eq, mset_ne, if_pos, if_neg, Int.reduceAdd, Int.reduceSub, Int.reduceMul, Int.reduceNeg, Int.reduceLT, Int.reduceLE, Int.reduceEq, Int.cast_ofNat_Int, eq_self, and_true, true_and, ite_self, true_or, or_true, false_or, or_false, and_false, false_and, not_true_eq_false, not_false_eq_true, if_true, if_false, e_R_finds_0, e_R_finds_26, e_R_finds_30, e_R_finds_31, e_R_finds_80, e_R_finds_99, e_R_finds_122, e_R_finds_123, e_R_finds_183, e_R_finds_219, e_R_finds_223, e_R_finds_224, e_R_finds_266]
    exact hx
  | succ n ih =>
    intro k i z hi0 hi hk ha
    rw [e_R_finds_141]
    cases k with
    | zero =>
      have e : hA = false := by rw [← ha]; rfl
      have hx := k0 e
      simp (disch := first | assumption | omega) only [rn, wk, al, wr_e, td_e, tm_e, mset_eq, mset_ne, if_pos, if_neg, Int.reduceAdd, Int.reduceSub, Int.reduceMul, Int.reduceNeg, Int.reduceLT, Int.reduceLE, Int.reduceEq, Int.cast_ofNat_Int, eq_self, and_true, true_and, ite_self, true_or, or_true, false_or, or_false, and_false, false_and, not_true_eq_false, not_false_eq_true, if_true, if_false, e_R_finds_0, e_R_finds_26, e_R_finds_30, e_R_finds_31, e_R_finds_80, e_R_finds_99, e_R_finds_122, e_R_finds_123, e_R_finds_183, e_R_finds_219, e_R_finds_223, e_R_finds_224, e_R_finds_266]
      exact hx
    | succ k =>
      have e : ahd (tl (t 150) i (n + 1)) (tl (t 151) i (k + 1)) = if t 150 i = t 151 i then ahd (tl (t 150) (i + 1) n) (tl (t 151) (i + 1) k) else decide (t 150 i < t 151 i) := rfl
      rw [e] at ha
      by_cases c : t 150 i = t 151 i
      · rw [if_pos c] at ha
        have hx := ih k (i + 1) z (by omega) (by omega) (by omega) ha
        simp (disch := first | assumption | omega) only [rn, wk, al, wr_e, td_e, tm_e, mset_eq, mset_ne, if_pos, if_neg, Int.reduceAdd, Int.reduceSub, Int.reduceMul, Int.reduceNeg, Int.reduceLT, Int.reduceLE, Int.reduceEq, Int.cast_ofNat_Int, eq_self, and_true, true_and, ite_self, true_or, or_true, false_or, or_false, and_false, false_and, not_true_eq_false, not_false_eq_true, if_true, if_false, c]
        exact hx
      · rw [if_neg c] at ha
        by_cases c2 : t 150 i < t 151 i
        · have e : hA = true := by rw [← ha]; simpa using c2
          have hx := k1 e i 1
          simp (disch := first | assumption | omega) only [rn, wk, al, wr_e, td_e, tm_e, mset_eq, mset_ne, if_pos, if_neg, Int.reduceAdd, Int.reduceSub, Int.reduceMul, Int.reduceNeg, Int.reduceLT, Int.reduceLE, Int.reduceEq, Int.cast_ofNat_Int, eq_self, and_true, true_and, ite_self, true_or, or_true, false_or, or_false, and_false, false_and, not_true_eq_false, not_false_eq_true, if_true, if_false, e_R_finds_0, e_R_finds_26, e_R_finds_30, e_R_finds_31, e_R_finds_80, e_R_finds_99, e_R_finds_122, e_R_finds_123, e_R_finds_183, e_R_finds_219, e_R_finds_223, e_R_finds_224, e_R_finds_266]
          exact hx
        · have e : hA = false := by rw [← ha]; simpa using c2
          have hx := k0 e
          simp (disch := first | assumption | omega) only [rn, wk, al, wr_e, td_e, tm_e, mset_eq, mset_ne, if_pos, if_neg, Int.reduceAdd, Int.reduceSub, Int.reduceMul, Int.reduceNeg, Int.reduceLT, Int.reduceLE, Int.reduceEq, Int.cast_ofNat_Int, eq_self, and_true, true_and, ite_self, true_or, or_true, false_or, or_false, and_false, false_and, not_true_eq_false, not_false_eq_true, if_true, if_false, e_R_finds_0, e_R_finds_26, e_R_finds_30, e_R_finds_31, e_R_finds_80, e_R_finds_99, e_R_finds_122, e_R_finds_123, e_R_finds_183, e_R_finds_219, e_R_finds_223, e_R_finds_224, e_R_finds_266]
          exact hx
theorem q_finds (d : Nat) (s : Mem) (N : Ntt) (so m : Int) (hm : 0 ≤ m ∧ m ≤ 4) (hd : ∀ i j, 0 ≤ i → i < j → j < m → s 149 i ≠ s 149 j) (h34 : s 137 34 = so) (hN : NtR N s) : CV (d + 1) 323 [137, m] s fun _ t => Ffd s t ∧ sortF (t 150) (s 149) m ∧ NtR (nt so N (tl (t 150) 0 m.toNat)) t := by
  obtain ⟨n1', n2', n3, n4⟩ := hN
  have key : ∀ t z, (∀ c j, c ≠ 150 → t c j = s c j) → sortF (t 150) (s 149) m → EV d o_R_finds 99 [] [137, m, if so ∈ tl (s 149) 0 m.toNat then 1 else 0, m, z, 0] t (fun _ t => Ffd s t ∧ sortF (t 150) (s 149) m ∧ NtR (nt so N (tl (t 150) 0 m.toNat)) t) := by
    intro t z hf hS
    have hmem : so ∈ tl (t 150) 0 m.toNat ↔ so ∈ tl (s 149) 0 m.toNat := by
      rw [mem_tl, mem_tl]
      have := hS.2 so
      constructor
      · rintro ⟨j, a, b, c⟩
        obtain ⟨j', a', c'⟩ := this.1 ⟨j, by omega, c⟩
        exact ⟨j', by omega, by omega, c'⟩
      · rintro ⟨j, a, b, c⟩
        obtain ⟨j', a', c'⟩ := this.2 ⟨j, by omega, c⟩
        exact ⟨j', by omega, by omega, c'⟩
    obtain ⟨T, hT⟩ : ∃ T, T = tl (t 150) 0 m.toNat := ⟨_, rfl⟩
    have elen : (T.length : Int) = m := by rw [hT, tl_len]; omega
    obtain ⟨hw, hwe, hw01⟩ : ∃ hw : Int, hw = (if so ∈ T then (1 : Int) else 0) ∧ (hw = 0 ∨ hw = 1) := ⟨_, rfl, by split <;> simp⟩
    have hwe2 : (if so ∈ tl (s 149) 0 m.toNat then (1 : Int) else 0) = hw := by
      rw [hwe, hT]
      by_cases c : so ∈ tl (s 149) 0 m.toNat
      · rw [if_pos c, if_pos (hmem.2 c)]
      · rw [if_neg c, if_neg (fun h => c (hmem.1 h))]
    rw [hwe2]
    have g32 : t 137 32 = wr N.1 := by rw [hf _ _ (by omega)]; exact n1'
    have g33 : t 137 33 = wr N.2.1 := by rw [hf _ _ (by omega)]; exact n2'
    have g35 : t 137 35 = s 137 35 := hf _ _ (by omega)
    have g36 : t 137 36 = s 137 36 := hf _ _ (by omega)
    obtain ⟨mo, hmo, hmo1⟩ : ∃ mo, min (s 137 36) m = mo ∧ mo = min N.2.2.1 m := by
      refine ⟨_, rfl, ?_⟩
      rcases n4 with ⟨o1, o2, o3, o4⟩ | ⟨B, o1, o2, o3, o4⟩
      · rw [o3, o2]; omega
      · rw [o2]
    have wb1 := wr_b N.1
    have wb2 := wr_b N.2.1
    have ew1 := wr_1 N.1 1
    have ew2 := wr_1 N.2.1 hw
    obtain ⟨w, hww⟩ : ∃ w, w = mset (mset (mset t 137 32 (wr (N.1 + 1))) 137 33 (wr (N.2.1 + hw))) 137 36 mo := ⟨_, rfl⟩
    have wf : ∀ c i, ¬ (c = 137 ∧ (i = 32 ∨ i = 33 ∨ i = 36)) → w c i = t c i := fun c i h => by rw [hww, mset_ne (by omega), mset_ne (by omega), mset_ne (by omega)]
    have w32 : w 137 32 = wr (N.1 + 1) := by rw [hww, mset_ne (by omega), mset_ne (by omega), mset_eq rfl rfl]
    have w33 : w 137 33 = wr (N.2.1 + hw) := by rw [hww, mset_ne (by omega), mset_eq rfl rfl]
    have w36 : w 137 36 = mo := by rw [hww, mset_eq rfl rfl]
    have w35 : w 137 35 = s 137 35 := by rw [wf _ _ (by omega), g35]
    have w150 : w 150 = t 150 := funext (fun i => wf _ _ (by omega))
    have w151 : w 151 = s 151 := funext (fun i => by rw [wf _ _ (by omega), hf _ _ (by omega)])
    have wF : Ffd s w := fun c i h1 h2 h3 => by rw [wf c i (by omega), hf c i h1]
    have last : ∀ o, on_ N.2.2.2 T = o → o = some T → ∀ i z, EV d o_R_finds 232 [] [137, m, hw, i, z, 0] w (fun _ t => Ffd s t ∧ sortF (t 150) (s 149) m ∧ NtR (nt so N (tl (t 150) 0 m.toNat)) t) := by
      intro o ho hoT i z
      have hx := lp_fd240 d m hw i z hm (mset w 137 35 m) (fun _ t => Ffd s t ∧ sortF (t 150) (s 149) m ∧ NtR (nt so N (tl (t 150) 0 m.toNat)) t) (fun y y1 y2 => by
        have y150 : y 150 = t 150 := by
          have : y 150 = mset w 137 35 m 150 := funext (fun i => y1 _ _ (by omega))
          rw [this, mset_nc (by omega), w150]
        have y35 : y 137 35 = m := by rw [y1 _ _ (by omega), mset_eq rfl rfl]
        refine ⟨fun c i h1 h2 h3 => by rw [y1 c i (by omega), mset_ne (by omega)]; exact wF c i h1 h2 h3, by rw [y150]; exact hS, ?_⟩
        rw [y150, ← hT]
        unfold nt
        rw [elen, ← hwe, ho, hoT]
        refine ⟨by rw [y1 _ _ (by omega), mset_ne (by omega)]; exact w32, by rw [y1 _ _ (by omega), mset_ne (by omega)]; exact w33, by show 0 ≤ min N.2.2.1 m ∧ min N.2.2.1 m ≤ 5; omega, Or.inr ⟨T, rfl, by rw [y1 _ _ (by omega), mset_ne (by omega), w36]; exact hmo1, by rw [y35]; exact hm, ?_⟩⟩
        rw [y35, hT]
        apply tl_congr
        intro j a b
        rw [y2 j (by omega), mset_ne (by omega), w150]) m.toNat 0 (mset w 137 35 m) (by omega) (by omega) (fun _ _ _ => rfl) (fun j hj => by omega)
      rw [e_R_finds_232]
      simp (disch := first | assumption | omega) only [rn, wk, al, wr_e, td_e, tm_e, mset_eq, mset_ne, if_pos, if_neg, Int.reduceAdd, Int.reduceSub, Int.reduceMul, Int.reduceNeg, Int.reduceLT, Int.reduceLE, Int.reduceEq, Int.cast_ofNat_Int, eq_self, and_true, true_and, ite_self, true_or, or_true, false_or, or_false, and_false, false_and, not_true_eq_false, not_false_eq_true, if_true, if_false]
      exact hx
    have go : EV d o_R_finds 141 [] [137, m, hw, 0, z, 0] w (fun _ t => Ffd s t ∧ sortF (t 150) (s 149) m ∧ NtR (nt so N (tl (t 150) 0 m.toNat)) t) := by
      rcases n4 with ⟨o1, o2, o3, o4⟩ | ⟨B, o1, o2, o3, o4⟩
      · have hl := last _ rfl (by rw [o1]; rfl) 0 1
        rw [e_R_finds_141]
        simp (disch := first | assumption | omega) only [rn, wk, al, wr_e, td_e, tm_e, mset_eq, mset_ne, if_pos, if_neg, Int.reduceAdd, Int.reduceSub, Int.reduceMul, Int.reduceNeg, Int.reduceLT, Int.reduceLE, Int.reduceEq, Int.cast_ofNat_Int, eq_self, and_true, true_and, ite_self, true_or, or_true, false_or, or_false, and_false, false_and, not_true_eq_false, not_false_eq_true, if_true, if_false, e_R_finds_0, e_R_finds_26, e_R_finds_30, e_R_finds_31, e_R_finds_80, e_R_finds_99, e_R_finds_122, e_R_finds_123, e_R_finds_183, e_R_finds_219, e_R_finds_223, e_R_finds_224, e_R_finds_266, w35, o4]
        exact hl
      · have eT : tl (w 150) 0 m.toNat = T := by rw [w150, hT]
        have eB : tl (w 151) 0 (w 137 35).toNat = B := by rw [w151, w35]; exact o4.symm
        refine lp_fd141 d m hw 0 hm w (by rw [w35]; exact o3) _ (ahd T B) (fun h i z => last _ rfl ?_ i z) (fun h => ?_) m.toNat (w 137 35).toNat 0 z (by omega) (by omega) (by rw [w35]; omega) (by rw [eT, eB])
        · rw [o1]; show some (mn_ B T) = some T; rw [mn_ahd, if_pos h]
        · refine ⟨wF, by rw [w150]; exact hS, ?_⟩
          rw [w150, ← hT]
          unfold nt
          rw [elen, ← hwe]
          refine ⟨w32, w33, by show 0 ≤ min N.2.2.1 m ∧ min N.2.2.1 m ≤ 5; omega, Or.inr ⟨B, ?_, by rw [w36]; exact hmo1, by rw [w35]; exact o3, eB.symm⟩⟩
          show on_ N.2.2.2 T = some B
          rw [o1]; show some (mn_ B T) = some B; rw [mn_ahd, if_neg (by rw [h]; decide)]
    rw [e_R_finds_99]
    rcases hw01 with e | e
    · subst e
      rw [Int.add_zero] at ew2 hww
      simp (disch := first | assumption | omega) only [rn, wk, al, wr_e, td_e, tm_e, mset_eq, mset_ne, if_pos, if_neg, Int.reduceAdd, Int.reduceSub, Int.reduceMul, Int.reduceNeg, Int.reduceLT, Int.reduceLE, Int.reduceEq, Int.cast_ofNat_Int, eq_self, and_true, true_and, ite_self, true_or, or_true, false_or, or_false, and_false, false_and, not_true_eq_false, not_false_eq_true, if_true, if_false, e_R_finds_0, e_R_finds_26, e_R_finds_30, e_R_finds_31, e_R_finds_80, e_R_finds_99, e_R_finds_122, e_R_finds_123, e_R_finds_183, e_R_finds_219, e_R_finds_223, e_R_finds_224, e_R_finds_232, e_R_finds_266, g32, g33, g36, ew1, Int.add_zero, hmo, ← hww]
      exact go
    · subst e
      simp (disch := first | assumption | omega) only [rn, wk, al, wr_e, td_e, tm_e, mset_eq, mset_ne, if_pos, if_neg, Int.reduceAdd, Int.reduceSub, Int.reduceMul, Int.reduceNeg, Int.reduceLT, Int.reduceLE, Int.reduceEq, Int.cast_ofNat_Int, eq_self, and_true, true_and, ite_self, true_or, or_true, false_or, or_false, and_false, false_and, not_true_eq_false, not_false_eq_true, if_true, if_false, e_R_finds_0, e_R_finds_26, e_R_finds_30, e_R_finds_31, e_R_finds_80, e_R_finds_99, e_R_finds_122, e_R_finds_123, e_R_finds_183, e_R_finds_219, e_R_finds_223, e_R_finds_224, e_R_finds_232, e_R_finds_266, g32, g33, g36, ew1, ew2, hmo, ← hww]
      exact go
  have hx := lp_fd4 d s so m 0 hm h34 hd _ key m.toNat 0 0 s (by omega) (fun _ _ _ => rfl) ⟨fun i j a b c => by omega, fun v => ⟨fun ⟨j, hj, _⟩ => by omega, fun ⟨j, hj, _⟩ => by omega⟩⟩
  rw [if_neg (by simp [tl])] at hx
  apply c_R_finds
  simp (disch := first | assumption | omega) only [rn, wk, al, wr_e, td_e, tm_e, mset_eq, mset_ne, if_pos, if_neg, Int.reduceAdd, Int.reduceSub, Int.reduceMul, Int.reduceNeg, Int.reduceLT, Int.reduceLE, Int.reduceEq, Int.cast_ofNat_Int, eq_self, and_true, true_and, ite_self, true_or, or_true, false_or, or_false, and_false, false_and, not_true_eq_false, not_false_eq_true, if_true, if_false, e_R_finds_0, e_R_finds_26, e_R_finds_30, e_R_finds_31, e_R_finds_80, e_R_finds_122, e_R_finds_123, e_R_finds_183, e_R_finds_219, e_R_finds_223, e_R_finds_224, e_R_finds_232, e_R_finds_266]
  exact hx
