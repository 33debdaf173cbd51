/-! ===== H2: walks and the shortest of them ===== -/
/-- a walk that leaves the way wo aside -/
def wkw (A : Mem) (wo : Int) : Nat → Int → Int → Int → Int → Prop
  | 0, a, b, x, y => a = b ∧ x = 0 ∧ y = 0
  | n + 1, a, b, x, y => ∃ w c, (0 ≤ w ∧ w < A 0 2 ∧ w ≠ wo) ∧ ((A 2 (2 * w) = a ∧ A 2 (2 * w + 1) = c) ∨ (A 2 (2 * w) = c ∧ A 2 (2 * w + 1) = a)) ∧ wkw A wo n c b (x - A 3 w) (y - A 4 w)
theorem wk_wkw (A : Mem) : ∀ (n : Nat) (a b x y : Int), wk_ A n a b x y ↔ wkw A (-1) n a b x y := by
  intro n
  induction n with
  | zero => intros; exact Iff.rfl
  | succ n ih =>
    intro a b x y
    constructor
    · rintro ⟨w, c, h1, h2, h3⟩
      exact ⟨w, c, by omega, h2, (ih _ _ _ _).mp h3⟩
    · rintro ⟨w, c, h1, h2, h3⟩
      exact ⟨w, c, by omega, h2, (ih _ _ _ _).mpr h3⟩
theorem wkw_cat {A : Mem} {wo : Int} : ∀ (n m : Nat) (a c b x y x' y' : Int), wkw A wo n a c x y → wkw A wo m c b x' y' → wkw A wo (n + m) a b (x + x') (y + y') := by
  intro n
  induction n with
  | zero =>
    rintro m a c b x y x' y' ⟨rfl, rfl, rfl⟩ h
    simpa only [Nat.zero_add, Int.zero_add] using h
  | succ n ih =>
    rintro m a c b x y x' y' ⟨w, e, h1, h2, h3⟩ h
    rw [show n + 1 + m = n + m + 1 by omega]
    refine ⟨w, e, h1, h2, ?_⟩
    have := ih m e c b _ _ x' y' h3 h
    rw [show x + x' - A 3 w = x - A 3 w + x' by omega, show y + y' - A 4 w = y - A 4 w + y' by omega]
    exact this
theorem wkw_pos {A : Mem} {wo : Int} (hw : VW A) : ∀ (n : Nat) (a b x y : Int), wkw A wo n a b x y → (n : Int) ≤ x ∧ x ≤ 9 * n ∧ 0 ≤ y ∧ y ≤ 9 * n := by
  intro n
  induction n with
  | zero =>
    rintro a b x y ⟨rfl, rfl, rfl⟩
    omega
  | succ n ih =>
    rintro a b x y ⟨w, c, h1, h2, h3⟩
    have := ih _ _ _ _ h3
    have := hw w (by omega)
    omega
theorem wkw_end {A : Mem} {wo : Int} (hw : VW A) : ∀ (n : Nat) (a b x y : Int), (0 ≤ a ∧ a < A 0 1) → wkw A wo n a b x y → (0 ≤ b ∧ b < A 0 1) := by
  intro n
  induction n with
  | zero =>
    rintro a b x y ha ⟨rfl, rfl, rfl⟩
    exact ha
  | succ n ih =>
    rintro a b x y ha ⟨w, c, h1, h2, h3⟩
    have := hw w (by omega)
    exact ih c b _ _ (by omega) h3
/-- a walk among these places alone -/
def wkS (A : Mem) (wo : Int) (S : List Int) : Nat → Int → Int → Int → Int → Prop
  | 0, a, b, x, y => a ∈ S ∧ a = b ∧ x = 0 ∧ y = 0
  | n + 1, a, b, x, y => a ∈ S ∧ ∃ w c, (0 ≤ w ∧ w < A 0 2 ∧ w ≠ wo) ∧ ((A 2 (2 * w) = a ∧ A 2 (2 * w + 1) = c) ∨ (A 2 (2 * w) = c ∧ A 2 (2 * w + 1) = a)) ∧ wkS A wo S n c b (x - A 3 w) (y - A 4 w)
theorem wkS_of {A : Mem} {wo : Int} (hw : VW A) (hp : A 0 1 ≤ 7) : ∀ (n : Nat) (a b x y : Int), (0 ≤ a ∧ a < A 0 1) → wkw A wo n a b x y → wkS A wo [0, 1, 2, 3, 4, 5, 6] n a b x y := by
  have hm : ∀ a : Int, (0 ≤ a ∧ a < A 0 1) → a ∈ ([0, 1, 2, 3, 4, 5, 6] : List Int) := by
    intro a ha
    obtain rfl | rfl | rfl | rfl | rfl | rfl | rfl : a = 0 ∨ a = 1 ∨ a = 2 ∨ a = 3 ∨ a = 4 ∨ a = 5 ∨ a = 6 := by omega
    all_goals simp
  intro n
  induction n with
  | zero =>
    rintro a b x y ha ⟨rfl, rfl, rfl⟩
    exact ⟨hm a ha, rfl, rfl, rfl⟩
  | succ n ih =>
    rintro a b x y ha ⟨w, c, h1, h2, h3⟩
    have := hw w (by omega)
    exact ⟨hm a ha, w, c, h1, h2, ih c b _ _ (by omega) h3⟩
theorem wkS_w {A : Mem} {wo : Int} {S : List Int} : ∀ (n : Nat) (a b x y : Int), wkS A wo S n a b x y → wkw A wo n a b x y := by
  intro n
  induction n with
  | zero => rintro a b x y ⟨-, h⟩; exact h
  | succ n ih =>
    rintro a b x y ⟨-, w, c, h1, h2, h3⟩
    exact ⟨w, c, h1, h2, ih _ _ _ _ h3⟩
theorem wkS_sub {A : Mem} {wo : Int} {S T : List Int} (h : ∀ v, v ∈ S → v ∈ T) : ∀ (n : Nat) (a b x y : Int), wkS A wo S n a b x y → wkS A wo T n a b x y := by
  intro n
  induction n with
  | zero => rintro a b x y ⟨h1, h2⟩; exact ⟨h a h1, h2⟩
  | succ n ih =>
    rintro a b x y ⟨h0, w, c, h1, h2, h3⟩
    exact ⟨h a h0, w, c, h1, h2, ih _ _ _ _ h3⟩
theorem flt_len (a : Int) : ∀ (S : List Int), a ∈ S → (S.filter (fun v => decide (v ≠ a))).length + 1 ≤ S.length := by
  intro S
  induction S with
  | nil => intro h; cases h
  | cons b S ih =>
    intro h
    by_cases e : b = a
    · subst e
      have : (List.filter (fun v => decide (v ≠ b)) (b :: S)) = List.filter (fun v => decide (v ≠ b)) S := by simp
      rw [this]
      have := List.length_filter_le (fun v => decide (v ≠ b)) S
      simp only [List.length_cons]; omega
    · have h' : a ∈ S := by
        rcases List.mem_cons.mp h with q | q
        · exact absurd q.symm e
        · exact q
      have := ih h'
      have e2 : (List.filter (fun v => decide (v ≠ a)) (b :: S)) = b :: List.filter (fun v => decide (v ≠ a)) S := by simp [e]
      rw [e2]
      simp only [List.length_cons]; omega
theorem wkS_last {A : Mem} {wo : Int} (hw : VW A) {S : List Int} (a : Int) : ∀ (n : Nat) (u b x y : Int), a ≠ b → wkS A wo S n u b x y → wkS A wo (S.filter (fun v => decide (v ≠ a))) n u b x y ∨ ∃ m w c x' y', (0 ≤ w ∧ w < A 0 2 ∧ w ≠ wo) ∧ ((A 2 (2 * w) = a ∧ A 2 (2 * w + 1) = c) ∨ (A 2 (2 * w) = c ∧ A 2 (2 * w + 1) = a)) ∧ wkS A wo (S.filter (fun v => decide (v ≠ a))) m c b x' y' ∧ A 3 w + x' ≤ x ∧ A 4 w + y' ≤ y := by
  intro n
  induction n with
  | zero =>
    rintro u b x y hab ⟨h1, rfl, h3⟩
    exact Or.inl ⟨List.mem_filter.mpr ⟨h1, by simpa using fun h => hab h.symm⟩, rfl, h3⟩
  | succ n ih =>
    rintro u b x y hab ⟨h0, w, c, h1, h2, h3⟩
    have hp := hw w (by omega)
    rcases ih c b _ _ hab h3 with h4 | ⟨m, w', c', x', y', q1, q2, q3, q4, q5⟩
    · by_cases e : u = a
      · subst e
        exact Or.inr ⟨n, w, c, _, _, h1, h2, h4, by omega, by omega⟩
      · exact Or.inl ⟨List.mem_filter.mpr ⟨h0, by simpa using e⟩, w, c, h1, h2, h4⟩
    · exact Or.inr ⟨m, w', c', x', y', q1, q2, q3, by omega, by omega⟩
theorem wkS_short {A : Mem} {wo : Int} (hw : VW A) : ∀ (m : Nat) (S : List Int), S.length ≤ m → ∀ (n : Nat) (a b x y : Int), wkS A wo S n a b x y → ∃ n' x' y', n' + 1 ≤ m ∧ x' ≤ x ∧ y' ≤ y ∧ wkS A wo S n' a b x' y' := by
  intro m
  induction m with
  | zero =>
    intro S hS n a b x y h
    have : a ∈ S := by cases n <;> exact h.1
    have e : S = [] := List.length_eq_zero_iff.mp (by omega)
    rw [e] at this; cases this
  | succ m ih =>
    intro S hS n a b x y h
    have ha : a ∈ S := by cases n <;> exact h.1
    have hp := wkw_pos hw n a b x y (wkS_w n a b x y h)
    by_cases e : a = b
    · exact ⟨0, 0, 0, by omega, by omega, by omega, ha, e, rfl, rfl⟩
    · have hl := flt_len a S ha
      rcases wkS_last hw a n a b x y e h with h4 | ⟨k, w, c, x', y', q1, q2, q3, q4, q5⟩
      · have : a ∈ S.filter (fun v => decide (v ≠ a)) := by cases n <;> exact h4.1
        have := (List.mem_filter.mp this).2
        simp at this
      · obtain ⟨n', x2, y2, p1, p2, p3, p4⟩ := ih _ (by omega) k c b x' y' q3
        refine ⟨n' + 1, A 3 w + x2, A 4 w + y2, by omega, by omega, by omega, ha, w, c, q1, q2, ?_⟩
        rw [show A 3 w + x2 - A 3 w = x2 by omega, show A 4 w + y2 - A 4 w = y2 by omega]
        exact wkS_sub (fun v hv => (List.mem_filter.mp hv).1) n' c b x2 y2 p4
theorem wkw_short {A : Mem} {wo : Int} (hw : VW A) (hp : A 0 1 ≤ 7) {n : Nat} {a b x y : Int} (ha : 0 ≤ a ∧ a < A 0 1) (h : wkw A wo n a b x y) : ∃ n' x' y', x' ≤ x ∧ y' ≤ y ∧ (0 ≤ x' ∧ x' ≤ 54) ∧ (0 ≤ y' ∧ y' ≤ 54) ∧ wkw A wo n' a b x' y' := by
  obtain ⟨n', x', y', h1, h2, h3, h4⟩ := wkS_short hw 7 [0, 1, 2, 3, 4, 5, 6] (by simp) n a b x y (wkS_of hw hp n a b x y ha h)
  have h5 := wkS_w n' a b x' y' h4
  have := wkw_pos hw n' a b x' y' h5
  exact ⟨n', x', y', h2, h3, by omega, by omega, h5⟩
def dsw (A : Mem) (wo a b x y : Int) : Prop := (∃ n, wkw A wo n a b x y) ∧ ∀ n x' y', wkw A wo n a b x' y' → x < x' ∨ (x = x' ∧ y ≤ y')
theorem dsw_uniq {A : Mem} {wo a b x y x' y' : Int} (h : dsw A wo a b x y) (h' : dsw A wo a b x' y') : x = x' ∧ y = y' := by
  obtain ⟨⟨n, h1⟩, h2⟩ := h
  obtain ⟨⟨n', h1'⟩, h2'⟩ := h'
  have := h2 _ _ _ h1'
  have := h2' _ _ _ h1
  omega
theorem dst_dsw {A : Mem} {a b x y : Int} : dst A a b x y ↔ dsw A (-1) a b x y := by
  unfold dst dsw
  simp only [wk_wkw]
/-- what a table of distances has to be, weights K and 1, F where there is no way -/
def Fpost (A : Mem) (wo K F : Int) (D : Int → Int → Int) : Prop := (∀ a b, 0 ≤ a ∧ a < A 0 1 → 0 ≤ b ∧ b < A 0 1 → D a b ≤ F) ∧ (∀ a b, 0 ≤ a ∧ a < A 0 1 → 0 ≤ b ∧ b < A 0 1 → D a b < F → ∃ n x y, wkw A wo n a b x y ∧ D a b = K * x + y) ∧ (∀ n a b x y, 0 ≤ a ∧ a < A 0 1 → 0 ≤ b ∧ b < A 0 1 → wkw A wo n a b x y → D a b ≤ K * x + y)
theorem fpost_dst {A : Mem} {wo K F : Int} {D : Int → Int → Int} (hw : VW A) (hp : A 0 1 ≤ 7) (hK : K = 100 ∨ K = 1000) (hF : 54054 < F) (h : Fpost A wo K F D) {a b : Int} (ha : 0 ≤ a ∧ a < A 0 1) (hb : 0 ≤ b ∧ b < A 0 1) : (D a b = F ∧ ∀ n x y, ¬ wkw A wo n a b x y) ∨ ∃ x y, dsw A wo a b x y ∧ D a b = K * x + y ∧ (0 ≤ x ∧ x ≤ 54) ∧ (0 ≤ y ∧ y ≤ 54) := by
  obtain ⟨f1, f2, f3⟩ := h
  by_cases hx : ∃ n x y, wkw A wo n a b x y
  · right
    obtain ⟨n, x, y, hx⟩ := hx
    obtain ⟨n0, x0, y0, -, -, h0x, h0y, hn0⟩ := wkw_short hw hp ha hx
    have hlt := f3 _ _ _ _ _ ha hb hn0
    have hD : D a b < F := by rcases hK with rfl | rfl <;> omega
    obtain ⟨n1, x1, y1, hw1, e1⟩ := f2 a b ha hb hD
    obtain ⟨n2, x2, y2, a1, a2, a3, a4, hw2⟩ := wkw_short hw hp ha hw1
    have hlt2 := f3 _ _ _ _ _ ha hb hw2
    have ex : x2 = x1 ∧ y2 = y1 := by rcases hK with rfl | rfl <;> omega
    obtain ⟨rfl, rfl⟩ := ex
    refine ⟨x2, y2, ⟨⟨n1, hw1⟩, ?_⟩, e1, a3, a4⟩
    intro n' x' y' h'
    obtain ⟨n3, x3, y3, b1, b2, b3, b4, hw3⟩ := wkw_short hw hp ha h'
    have hlt3 := f3 _ _ _ _ _ ha hb hw3
    rcases hK with rfl | rfl <;> omega
  · left
    refine ⟨?_, fun n x y h => hx ⟨n, x, y, h⟩⟩
    by_cases hD : D a b < F
    · obtain ⟨n, x, y, h, -⟩ := f2 a b ha hb hD
      exact absurd ⟨n, x, y, h⟩ hx
    · have := f1 a b ha hb; omega
