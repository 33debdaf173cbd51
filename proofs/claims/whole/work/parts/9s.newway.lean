/-! ===== H2: distances when one way is changed ===== -/
def Mw (D : Int → Int → Int) (u v W a b : Int) : Int := min (D a b) (min (D a u + D v b) (D a v + D u b) + W)
def chg (A : Mem) (w z l : Int) : Mem := mset (mset A 3 w z) 4 w l
def Nw (D : Int → Int → Int) (u v W a b : Int) : Int := if Mw D u v W a b < 10000000 then Mw D u v W a b else 10000000
theorem chg_w {A : Mem} {w z l : Int} : chg A w z l 3 w = z ∧ chg A w z l 4 w = l := by
  unfold chg
  exact ⟨by rw [mset_ne (by omega), mset_eq rfl rfl], by rw [mset_eq rfl rfl]⟩
theorem chg_o {A : Mem} {w z l k i : Int} (h : ¬ ((k = 3 ∨ k = 4) ∧ i = w)) : chg A w z l k i = A k i := by
  unfold chg
  rw [mset_ne (by omega), mset_ne (by omega)]
theorem wkw_chg {A : Mem} {w z l : Int} : ∀ (n : Nat) (a b x y : Int), wkw A w n a b x y → wkw (chg A w z l) (-1) n a b x y := by
  intro n
  induction n with
  | zero => intro a b x y h; exact h
  | succ n ih =>
    rintro a b x y ⟨e, c, h1, h2, h3⟩
    refine ⟨e, c, ⟨h1.1, by rw [chg_o (by omega)]; exact h1.2.1, by omega⟩, ?_, ?_⟩
    · rw [chg_o (by omega), chg_o (by omega)]; exact h2
    · rw [chg_o (by omega), chg_o (by omega)]; exact ih _ _ _ _ h3
theorem newway {A : Mem} (hw : VW A) {w z l : Int} (hwr : 0 ≤ w ∧ w < A 0 2) (hz : 1 ≤ z ∧ z ≤ 9) (hl : 0 ≤ l ∧ l ≤ 9) {D : Int → Int → Int} (h : Fpost A w 1000 10000000 D) : Fpost (chg A w z l) (-1) 1000 10000000 (Nw D (A 2 (2 * w)) (A 2 (2 * w + 1)) (1000 * z + l)) := by
  obtain ⟨f1, f2, f3⟩ := h
  have hv := hw w hwr
  obtain ⟨u, hu⟩ : ∃ u, u = A 2 (2 * w) := ⟨_, rfl⟩
  obtain ⟨v, hvv⟩ : ∃ v, v = A 2 (2 * w + 1) := ⟨_, rfl⟩
  rw [← hu, ← hvv] at hv ⊢
  have e1 : chg A w z l 0 1 = A 0 1 := chg_o (by omega)
  have pU : 0 ≤ u ∧ u < A 0 1 := hv.1
  have pV : 0 ≤ v ∧ v < A 0 1 := hv.2.1
  have nn : ∀ a b, 0 ≤ a ∧ a < A 0 1 → 0 ≤ b ∧ b < A 0 1 → 0 ≤ D a b := by
    intro a b ha hb
    by_cases c : D a b < 10000000
    · obtain ⟨n, x, y, h1, h2⟩ := f2 a b ha hb c
      have := wkw_pos hw n a b x y h1
      omega
    · omega
  have dz : ∀ a, 0 ≤ a ∧ a < A 0 1 → D a a ≤ 0 := by
    intro a ha
    have := f3 0 a a 0 0 ha ha ⟨rfl, rfl, rfl⟩
    omega
  have edge : ∀ a c b x y, 0 ≤ a ∧ a < A 0 1 → 0 ≤ c ∧ c < A 0 1 → 0 ≤ b ∧ b < A 0 1 → wkw A w 1 a c x y → D a b ≤ 1000 * x + y + D c b := by
    intro a c b x y ha hc hb hE
    have hp := wkw_pos hw 1 a c x y hE
    by_cases cc : D c b < 10000000
    · obtain ⟨n, x', y', h1, h2⟩ := f2 c b hc hb cc
      have := f3 _ a b _ _ ha hb (wkw_cat 1 n a c b x y x' y' hE h1)
      omega
    · have := f1 a b ha hb
      omega
  have wW : ∀ p q, ((u = p ∧ v = q) ∨ (u = q ∧ v = p)) → wkw (chg A w z l) (-1) 1 p q z l := by
    intro p q hpq
    refine ⟨w, q, ⟨hwr.1, by rw [chg_o (by omega)]; exact hwr.2, by omega⟩, ?_, ?_⟩
    · rw [chg_o (by omega), chg_o (by omega), ← hu, ← hvv]; exact hpq
    · rw [chg_w.1, chg_w.2]; exact ⟨rfl, by omega, by omega⟩
  have low : ∀ n a b x y, 0 ≤ a ∧ a < A 0 1 → 0 ≤ b ∧ b < A 0 1 → wkw (chg A w z l) (-1) n a b x y → Mw D u v (1000 * z + l) a b ≤ 1000 * x + y := by
    intro n
    induction n with
    | zero =>
      rintro a b x y ha hb ⟨rfl, rfl, rfl⟩
      have := dz a ha
      unfold Mw; omega
    | succ n ih =>
      rintro a b x y ha hb ⟨e, c, h1, h2, h3⟩
      rw [chg_o (by omega)] at h1
      rw [chg_o (by omega), chg_o (by omega)] at h2
      have he := hw e ⟨h1.1, h1.2.1⟩
      have hc : 0 ≤ c ∧ c < A 0 1 := by omega
      have i1 := ih c b _ _ hc hb h3
      by_cases ew : e = w
      · subst ew
        rw [chg_w.1, chg_w.2] at i1
        rw [← hu, ← hvv] at h2
        have z1 := dz u pU
        have z2 := dz v pV
        have n1 := nn u b pU hb
        have n2 := nn v b pV hb
        have n3 := nn v u pV pU
        have n4 := nn u v pU pV
        have n5 := nn u u pU pU
        have n6 := nn v v pV pV
        unfold Mw at i1 ⊢
        rcases h2 with ⟨rfl, rfl⟩ | ⟨rfl, rfl⟩
        · omega
        · omega
      · rw [chg_o (by omega), chg_o (by omega)] at i1
        have hE : wkw A w 1 a c (A 3 e) (A 4 e) := ⟨e, c, ⟨h1.1, h1.2.1, ew⟩, h2, rfl, by omega, by omega⟩
        have t1 := edge a c b _ _ ha hc hb hE
        have t2 := edge a c u _ _ ha hc pU hE
        have t3 := edge a c v _ _ ha hc pV hE
        unfold Mw at i1 ⊢
        omega
  refine ⟨?_, ?_, ?_⟩
  · intro a b _ _; unfold Nw; split <;> omega
  · rw [e1]
    intro a b ha hb hlt
    have hM : Mw D u v (1000 * z + l) a b < 10000000 ∧ Nw D u v (1000 * z + l) a b = Mw D u v (1000 * z + l) a b := by
      unfold Nw at hlt ⊢
      split at hlt
      · rename_i c; exact ⟨c, if_pos c⟩
      · omega
    rw [hM.2]
    have hm := hM.1
    have n1 := nn a u ha pU
    have n2 := nn v b pV hb
    have n3 := nn a v ha pV
    have n4 := nn u b pU hb
    by_cases c1 : Mw D u v (1000 * z + l) a b = D a b
    · rw [c1] at hm ⊢
      obtain ⟨n, x, y, h1, h2⟩ := f2 a b ha hb hm
      exact ⟨n, x, y, wkw_chg n a b x y h1, h2⟩
    · by_cases c2 : Mw D u v (1000 * z + l) a b = D a u + D v b + (1000 * z + l)
      · rw [c2] at hm ⊢
        obtain ⟨n, x, y, h1, h2⟩ := f2 a u ha pU (by omega)
        obtain ⟨m, x', y', k1, k2⟩ := f2 v b pV hb (by omega)
        have q := wkw_cat _ m a v b _ _ x' y' (wkw_cat n 1 a u v x y z l (wkw_chg n a u x y h1) (wW u v (Or.inl ⟨rfl, rfl⟩))) (wkw_chg m v b x' y' k1)
        exact ⟨_, _, _, q, by omega⟩
      · have c3 : Mw D u v (1000 * z + l) a b = D a v + D u b + (1000 * z + l) := by
          unfold Mw at c1 c2 ⊢; omega
        rw [c3] at hm ⊢
        obtain ⟨n, x, y, h1, h2⟩ := f2 a v ha pV (by omega)
        obtain ⟨m, x', y', k1, k2⟩ := f2 u b pU hb (by omega)
        have q := wkw_cat _ m a u b _ _ x' y' (wkw_cat n 1 a v u x y z l (wkw_chg n a v x y h1) (wW v u (Or.inr ⟨rfl, rfl⟩))) (wkw_chg m u b x' y' k1)
        exact ⟨_, _, _, q, by omega⟩
  · rw [e1]
    intro n a b x y ha hb hW
    have := low n a b x y ha hb hW
    have hsh : Nw D u v (1000 * z + l) a b ≤ Mw D u v (1000 * z + l) a b := by unfold Nw; split <;> omega
    omega
theorem VW_chg {A : Mem} (hw : VW A) {w z l : Int} (hz : 1 ≤ z ∧ z ≤ 9) (hl : 0 ≤ l ∧ l ≤ 9) : VW (chg A w z l) := by
  intro e he
  rw [chg_o (by omega)] at he
  have := hw e he
  rw [chg_o (k := 2) (by omega), chg_o (k := 2) (by omega), chg_o (k := 0) (by omega)]
  by_cases c : e = w
  · subst c
    rw [chg_w.1, chg_w.2]
    exact ⟨this.1, this.2.1, hz, hl, this.2.2.2.2⟩
  · rw [chg_o (by omega), chg_o (by omega)]; exact this
/-- the hall with the way w changed, and its distances -/
def A2 (A : Mem) (D : Int → Int → Int) (w z l : Int) : Mem := fun k i => if k = 11 then Nw D (A 2 (2 * w)) (A 2 (2 * w + 1)) (1000 * z + l) (i / 7) (i % 7) else chg A w z l k i
theorem A2_c {A : Mem} {D : Int → Int → Int} {w z l k : Int} (h : k ≠ 11) : A2 A D w z l k = chg A w z l k := by
  funext i; unfold A2; rw [if_neg h]
theorem A2_o {A : Mem} {D : Int → Int → Int} {w z l k : Int} (h : k ≠ 11) (h3 : k ≠ 3) (h4 : k ≠ 4) : A2 A D w z l k = A k := by
  funext i; rw [A2_c h]; exact chg_o (by omega)
theorem A2_ok {A : Mem} (hc : VC A) (hw : VW A) {w z l : Int} (hwr : 0 ≤ w ∧ w < A 0 2) (hz : 1 ≤ z ∧ z ≤ 9) (hl : 0 ≤ l ∧ l ≤ 9) {D : Int → Int → Int} (h : Fpost A w 1000 10000000 D) : VC (A2 A D w z l) ∧ VW (A2 A D w z l) ∧ VN (A2 A D w z l) := by
  have e0 : A2 A D w z l 0 = A 0 := A2_o (by omega) (by omega) (by omega)
  have hC : VC (A2 A D w z l) := by unfold VC at hc ⊢; rw [e0]; exact hc
  have hW : VW (A2 A D w z l) := by
    have := VW_chg hw (w := w) hz hl
    unfold VW at this ⊢
    rw [A2_c (by omega), A2_c (by omega), A2_c (by omega), A2_c (by omega)]; exact this
  refine ⟨hC, hW, vn_of hC hW ?_⟩
  have hn := newway hw hwr hz hl h
  unfold VC at hc
  obtain ⟨p1, p2, p3⟩ := hn
  have ek : ∀ n a b x y, wkw (A2 A D w z l) (-1) n a b x y = wkw (chg A w z l) (-1) n a b x y := wkw_congr (by rw [A2_c (by omega)]) (A2_c (by omega)) (A2_c (by omega)) (A2_c (by omega))
  have e1 : A2 A D w z l 0 1 = chg A w z l 0 1 := by rw [A2_c (by omega)]
  have e11 : ∀ a b, 0 ≤ b ∧ b < A2 A D w z l 0 1 → A2 A D w z l 11 (7 * a + b) = Nw D (A 2 (2 * w)) (A 2 (2 * w + 1)) (1000 * z + l) a b := by
    intro a b hb
    rw [e0] at hb
    unfold A2
    rw [if_pos rfl, show (7 * a + b) / 7 = a by omega, show (7 * a + b) % 7 = b by omega]
  refine ⟨?_, ?_, ?_⟩
  · intro a b ha hb
    show A2 A D w z l 11 (7 * a + b) ≤ _
    rw [e11 a b hb]
    rw [e1] at ha hb
    exact p1 a b ha hb
  · intro a b ha hb hlt
    have hlt : A2 A D w z l 11 (7 * a + b) < 10000000 := hlt
    show ∃ n x y, _ ∧ A2 A D w z l 11 (7 * a + b) = 1000 * x + y
    rw [e11 a b hb] at hlt ⊢
    rw [e1] at ha hb
    simp only [ek]
    exact p2 a b ha hb hlt
  · intro n a b x y ha hb hW'
    show A2 A D w z l 11 (7 * a + b) ≤ _
    rw [e11 a b hb]
    rw [e1] at ha hb
    rw [ek] at hW'
    exact p3 n a b x y ha hb hW'
