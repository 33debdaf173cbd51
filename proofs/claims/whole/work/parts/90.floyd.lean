/-! ===== H2: tables of distances ===== -/
def inP (A : Mem) (a : Int) : Prop := 0 ≤ a ∧ a < A 0 1
def FlI (A : Mem) (wo K F : Int) (D : Int → Int → Int) : Prop := (∀ a b, inP A a → inP A b → 0 ≤ D a b ∧ D a b ≤ F) ∧ (∀ a, inP A a → D a a = 0) ∧ (∀ a b, inP A a → inP A b → D a b < F → ∃ n x y, wkw A wo n a b x y ∧ D a b = K * x + y)
def Edg (A : Mem) (wo K m : Int) (D : Int → Int → Int) : Prop := ∀ w, 0 ≤ w ∧ w < m ∧ w ≠ wo → D (A 2 (2 * w)) (A 2 (2 * w + 1)) ≤ K * A 3 w + A 4 w ∧ D (A 2 (2 * w + 1)) (A 2 (2 * w)) ≤ K * A 3 w + A 4 w
def Tri (A : Mem) (k : Int) (D : Int → Int → Int) : Prop := ∀ c, 0 ≤ c ∧ c < k → ∀ a b, inP A a → inP A b → D a b ≤ D a c + D c b
def fl (D : Int → Int → Int) (k : Int) : Int → Int → Int := fun a b => min (D a b) (D a k + D k b)
theorem fl_col {A : Mem} {wo K F k : Int} {D : Int → Int → Int} (h : FlI A wo K F D) (hk : inP A k) {a : Int} (ha : inP A a) : fl D k a k = D a k ∧ fl D k k a = D k a := by
  have := h.1 a k ha hk
  have := h.1 k a hk ha
  have := h.2.1 k hk
  unfold fl
  omega
theorem fl_I {A : Mem} {wo K F k : Int} {D : Int → Int → Int} (h : FlI A wo K F D) (hk : inP A k) : FlI A wo K F (fl D k) := by
  refine ⟨?_, ?_, ?_⟩
  · intro a b ha hb
    have := h.1 a b ha hb
    have := h.1 a k ha hk
    have := h.1 k b hk hb
    unfold fl
    omega
  · intro a ha
    have := h.2.1 a ha
    have := h.1 a k ha hk
    have := h.1 k a hk ha
    unfold fl
    omega
  · intro a b ha hb hlt
    have h0 := h.1 a b ha hb
    have h1 := h.1 a k ha hk
    have h2 := h.1 k b hk hb
    by_cases c : D a b ≤ D a k + D k b
    · have e : fl D k a b = D a b := by unfold fl; omega
      rw [e] at hlt ⊢
      exact h.2.2 a b ha hb hlt
    · have e : fl D k a b = D a k + D k b := by unfold fl; omega
      rw [e] at hlt ⊢
      obtain ⟨n, x, y, q1, q2⟩ := h.2.2 a k ha hk (by omega)
      obtain ⟨m, x', y', r1, r2⟩ := h.2.2 k b hk hb (by omega)
      refine ⟨n + m, x + x', y + y', wkw_cat n m a k b x y x' y' q1 r1, ?_⟩
      rw [q2, r2, Int.mul_add]; omega
theorem fl_T {A : Mem} {wo K F k : Int} {D : Int → Int → Int} (h : FlI A wo K F D) (hk : inP A k) (ht : Tri A k D) : Tri A (k + 1) (fl D k) := by
  intro c hc a b ha hb
  have hc' : inP A c := ⟨hc.1, by have := hk.2; omega⟩
  have p1 := h.1 a k ha hk
  have p2 := h.1 k b hk hb
  have p3 := h.1 c k hc' hk
  have p4 := h.1 k c hk hc'
  by_cases e : c = k
  · subst e
    rw [(fl_col h hk ha).1, (fl_col h hk hb).2]
    unfold fl
    omega
  · have t1 := ht c (by omega) a b ha hb
    have t2 := ht c (by omega) k b hk hb
    have t3 := ht c (by omega) a k ha hk
    unfold fl
    omega
theorem fl_E {A : Mem} {wo K m k : Int} {D : Int → Int → Int} (h : Edg A wo K m D) : Edg A wo K m (fl D k) := by
  intro w hw
  have := h w hw
  unfold fl
  omega
theorem fl_post {A : Mem} {wo K F : Int} {D : Int → Int → Int} (hw : VW A) (h : FlI A wo K F D) (he : Edg A wo K (A 0 2) D) (ht : Tri A (A 0 1) D) : Fpost A wo K F D := by
  refine ⟨fun a b ha hb => (h.1 a b ha hb).2, h.2.2, ?_⟩
  intro n
  induction n with
  | zero =>
    rintro a b x y ha hb ⟨rfl, rfl, rfl⟩
    have := h.2.1 a ha
    rw [this, Int.mul_zero]; omega
  | succ n ih =>
    rintro a b x y ha hb ⟨w, c, h1, h2, h3⟩
    have hv := hw w (by omega)
    have hc : inP A c := by unfold inP; omega
    have i1 := ih c b _ _ hc hb h3
    have e1 := he w (by omega)
    have t1 := ht c hc a b ha hb
    rw [Int.mul_sub] at i1
    rcases h2 with ⟨rfl, rfl⟩ | ⟨rfl, rfl⟩ <;> omega
/-- an edge taken in, both ways -/
def sho (D : Int → Int → Int) (u v w : Int) : Int → Int → Int := fun a b => if (a = u ∧ b = v) ∨ (a = v ∧ b = u) then min (D a b) w else D a b
theorem FlI_congr {A : Mem} {wo K F : Int} {D D' : Int → Int → Int} (hd : ∀ a b, inP A a → inP A b → D' a b = D a b) (h : FlI A wo K F D) : FlI A wo K F D' := by
  refine ⟨fun a b ha hb => by rw [hd a b ha hb]; exact h.1 a b ha hb, fun a ha => by rw [hd a a ha ha]; exact h.2.1 a ha, fun a b ha hb => by rw [hd a b ha hb]; exact h.2.2 a b ha hb⟩
theorem Edg_congr {A : Mem} {wo K m : Int} {D D' : Int → Int → Int} (hw : VW A) (hm : m ≤ A 0 2) (hd : ∀ a b, inP A a → inP A b → D' a b = D a b) (h : Edg A wo K m D) : Edg A wo K m D' := by
  intro w hx
  have hv := hw w (by omega)
  rw [hd _ _ hv.1 hv.2.1, hd _ _ hv.2.1 hv.1]
  exact h w hx
theorem Tri_congr {A : Mem} {k : Int} {D D' : Int → Int → Int} (hk : k ≤ A 0 1) (hd : ∀ a b, inP A a → inP A b → D' a b = D a b) (h : Tri A k D) : Tri A k D' := by
  intro c hc a b ha hb
  have hc' : inP A c := ⟨hc.1, by omega⟩
  rw [hd a b ha hb, hd a c ha hc', hd c b hc' hb]
  exact h c hc a b ha hb
theorem sho_I {A : Mem} {wo K F w : Int} {D : Int → Int → Int} (hw : VW A) (hK : 0 ≤ K) (h : FlI A wo K F D) (hx : 0 ≤ w ∧ w < A 0 2 ∧ w ≠ wo) : FlI A wo K F (sho D (A 2 (2 * w)) (A 2 (2 * w + 1)) (K * A 3 w + A 4 w)) := by
  have hv := hw w (by omega)
  have hp : 0 ≤ K * A 3 w := Int.mul_nonneg hK (by omega)
  refine ⟨?_, ?_, ?_⟩
  · intro a b ha hb
    have := h.1 a b ha hb
    unfold sho
    split <;> omega
  · intro a ha
    have := h.2.1 a ha
    unfold sho
    split <;> omega
  · intro a b ha hb hlt
    have h0 := h.1 a b ha hb
    by_cases c : (a = A 2 (2 * w) ∧ b = A 2 (2 * w + 1)) ∨ (a = A 2 (2 * w + 1) ∧ b = A 2 (2 * w))
    · by_cases c2 : D a b ≤ K * A 3 w + A 4 w
      · have e : sho D (A 2 (2 * w)) (A 2 (2 * w + 1)) (K * A 3 w + A 4 w) a b = D a b := by unfold sho; rw [if_pos c]; omega
        rw [e] at hlt ⊢
        exact h.2.2 a b ha hb hlt
      · have e : sho D (A 2 (2 * w)) (A 2 (2 * w + 1)) (K * A 3 w + A 4 w) a b = K * A 3 w + A 4 w := by unfold sho; rw [if_pos c]; omega
        rw [e]
        refine ⟨1, A 3 w, A 4 w, ⟨w, b, hx, ?_, rfl, by omega, by omega⟩, rfl⟩
        omega
    · have e : sho D (A 2 (2 * w)) (A 2 (2 * w + 1)) (K * A 3 w + A 4 w) a b = D a b := by unfold sho; rw [if_neg c]
      rw [e] at hlt ⊢
      exact h.2.2 a b ha hb hlt
theorem sho_E {A : Mem} {wo K w : Int} {D : Int → Int → Int} (h : Edg A wo K w D) : Edg A wo K (w + 1) (sho D (A 2 (2 * w)) (A 2 (2 * w + 1)) (K * A 3 w + A 4 w)) := by
  intro v hv
  by_cases e : v = w
  · subst e
    unfold sho
    rw [if_pos (by omega), if_pos (by omega)]
    omega
  · have := h v (by omega)
    unfold sho
    constructor
    · split <;> omega
    · split <;> omega
theorem skip_E {A : Mem} {wo K : Int} {D : Int → Int → Int} (h : Edg A wo K wo D) : Edg A wo K (wo + 1) D := by
  intro v hv
  exact h v (by omega)
