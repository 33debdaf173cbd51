/-! ===== H2: a hall that is being read ===== -/
def Zr (A : Mem) (B : Int → Int) : Prop := ∀ c, 0 ≤ c ∧ c < 5 → (A 0 4 ≤ c → B (55 + 11 * c) = 0) ∧ ∀ k i, 0 ≤ k ∧ k < 3 → 0 ≤ i ∧ i < 3 → (c < A 0 4 → A 7 c ≤ k) → B (56 + 11 * c + 3 * k + i) = 0
def HP (A : Mem) (B N : Int → Int) : Prop := VC A ∧ (VW A ∧ RW A B) ∧ (VS A ∧ RS A B) ∧ (VL A ∧ RLc A B) ∧ (A 0 6 = 0 ∧ A 12 0 = 0 ∧ B 7 = -1) ∧ RC A B ∧ RK A B ∧ RN A N ∧ Zr A B
theorem kW {A A' : Mem} {B B' : Int → Int} (hc : VC A) (h : VW A ∧ RW A B) (h2 : A' 0 2 = A 0 2) (h1 : A 0 1 ≤ A' 0 1) (e2 : A' 2 = A 2) (e3 : A' 3 = A 3) (e4 : A' 4 = A 4) (eb : ∀ i, 10 ≤ i → i < 50 → B' i = B i) : VW A' ∧ RW A' B' := by
  unfold VC at hc
  obtain ⟨a, b⟩ := h
  constructor
  · intro w hw
    rw [h2] at hw
    have := a w hw
    rw [e2, e3, e4]
    exact ⟨by omega, by omega, this.2.2.1, this.2.2.2.1, this.2.2.2.2⟩
  · intro w hw
    rw [h2] at hw
    rw [e2, e3, e4, eb _ (by omega) (by omega), eb _ (by omega) (by omega), eb _ (by omega) (by omega), eb _ (by omega) (by omega)]
    exact b w hw
theorem kS_ {A A' : Mem} {B B' : Int → Int} (hc : VC A) (h : VS A ∧ RS A B) (h2 : A' 0 3 = A 0 3) (h1 : A 0 1 ≤ A' 0 1) (e5 : A' 5 = A 5) (eb : ∀ i, 50 ≤ i → i < 54 → B' i = B i) : VS A' ∧ RS A' B' := by
  unfold VC at hc
  obtain ⟨a, b⟩ := h
  constructor
  · intro i hi
    rw [h2] at hi
    have := a i hi
    rw [e5]; omega
  · intro i hi
    rw [h2] at hi
    rw [e5, eb _ (by omega) (by omega)]
    exact b i hi
theorem kL {A A' : Mem} {B B' : Int → Int} (hc : VC A) (h : VL A ∧ RLc A B) (h2 : A' 0 4 = A 0 4) (h1 : A 0 1 ≤ A' 0 1) (e6 : A' 6 = A 6) (e7 : A' 7 = A 7) (e8 : A' 8 = A 8) (eb : ∀ i, 54 ≤ i → i < 109 → B' i = B i) : VL A' ∧ RLc A' B' := by
  unfold VC at hc
  obtain ⟨a, b⟩ := h
  constructor
  · intro c hc'
    rw [h2] at hc'
    have := a c hc'
    rw [e6, e7, e8]
    exact ⟨by omega, this.2⟩
  · intro c hc'
    rw [h2] at hc'
    have h3 := (a c hc').2.1
    have := b c hc'
    rw [e6, e7, e8, eb _ (by omega) (by omega), eb _ (by omega) (by omega)]
    exact ⟨this.1, this.2.1, fun k i hk hi => by rw [eb _ (by omega) (by omega)]; exact this.2.2 k i hk hi⟩
theorem kK {A A' : Mem} {B B' : Int → Int} (hc : VC A) (h : RK A B) (h5 : A' 0 5 = A 0 5) (h4 : A 0 4 ≤ A' 0 4) (e9 : A' 9 = A 9) (e7 : ∀ c, 0 ≤ c ∧ c < A 0 4 → A 7 c ≤ A' 7 c) (eb : ∀ i, 109 ≤ i → i < 133 → B' i = B i) : RK A' B' := by
  unfold VC at hc
  intro k hk
  rw [h5] at hk
  have := h k hk
  have e := e7 _ this.2.1
  rw [e9, eb _ (by omega) (by omega), eb _ (by omega) (by omega), eb _ (by omega) (by omega)]
  exact ⟨this.1, by omega, by omega, this.2.2.2⟩
theorem kN {A A' : Mem} {N N' : Int → Int} (hc : VC A) (h : RN A N) (h1 : A' 0 1 = A 0 1) (h3 : A' 0 3 = A 0 3) (h4 : A' 0 4 = A 0 4) (e1 : A' 1 = A 1) (en : ∀ i, 0 ≤ i → i < 16 → N' i = N i) : RN A' N' := by
  unfold VC at hc
  obtain ⟨a, b, c⟩ := h
  unfold RN
  rw [h1, h3, h4, e1]
  exact ⟨fun i hi => by rw [en _ (by omega) (by omega)]; exact a i hi, fun i hi => by rw [en _ (by omega) (by omega)]; exact b i hi, fun i hi => by rw [en _ (by omega) (by omega)]; exact c i hi⟩
theorem kZ {A A' : Mem} {B B' : Int → Int} (h : Zr A B) (h4 : A' 0 4 = A 0 4) (e7 : A' 7 = A 7) (eb : ∀ i, 55 ≤ i → i < 109 → B' i = B i) : Zr A' B' := by
  intro c hc
  obtain ⟨a, b⟩ := h c hc
  rw [h4, e7]
  exact ⟨fun x => by rw [eb _ (by omega) (by omega)]; exact a x, fun k i hk hi x => by rw [eb _ (by omega) (by omega)]; exact b k i hk hi x⟩
theorem HP_odds {A A' : Mem} {B B' N N' : Int → Int} {o : Int} (h : HP A B N) (ho : 0 ≤ o ∧ o ≤ 16) (hA : ∀ k i, 0 ≤ k ∧ k < 20 → ¬ (k = 0 ∧ i = 0) → A' k i = A k i) (h0 : A' 0 0 = o) (hB : ∀ i, 0 ≤ i → i < 860 → i ≠ 5 → B' i = B i) (b5 : B' 5 = o) (hN : ∀ i, 0 ≤ i → i < 16 → N' i = N i) : HP A' B' N' := by
  obtain ⟨c, w, s, l, z, rc, rk, rn, zr⟩ := h
  have ea : ∀ k, 0 < k ∧ k < 20 → A' k = A k := fun k hk => funext (fun i => hA k i (by omega) (by omega))
  have e0 : ∀ i, i ≠ 0 → A' 0 i = A 0 i := fun i hi => hA 0 i (by omega) (by omega)
  refine ⟨?_, kW c w (e0 _ (by omega)) (by rw [e0 _ (by omega)]; omega) (ea _ (by omega)) (ea _ (by omega)) (ea _ (by omega)) (fun i a b => hB i (by omega) (by omega) (by omega)), kS_ c s (e0 _ (by omega)) (by rw [e0 _ (by omega)]; omega) (ea _ (by omega)) (fun i a b => hB i (by omega) (by omega) (by omega)), kL c l (e0 _ (by omega)) (by rw [e0 _ (by omega)]; omega) (ea _ (by omega)) (ea _ (by omega)) (ea _ (by omega)) (fun i a b => hB i (by omega) (by omega) (by omega)), ⟨by rw [e0 _ (by omega)]; exact z.1, by rw [ea _ (by omega)]; exact z.2.1, by rw [hB _ (by omega) (by omega) (by omega)]; exact z.2.2⟩, ?_, kK c rk (e0 _ (by omega)) (by rw [e0 _ (by omega)]; omega) (ea _ (by omega)) (fun c _ => by rw [ea _ (by omega)]; omega) (fun i a b => hB i (by omega) (by omega) (by omega)), kN c rn (e0 _ (by omega)) (e0 _ (by omega)) (e0 _ (by omega)) (ea _ (by omega)) hN, kZ zr (e0 _ (by omega)) (ea _ (by omega)) (fun i a b => hB i (by omega) (by omega) (by omega))⟩
  · unfold VC at c ⊢
    rw [h0, e0 1 (by omega), e0 2 (by omega), e0 3 (by omega), e0 4 (by omega), e0 5 (by omega), e0 6 (by omega)]
    exact ⟨ho, c.2⟩
  · unfold RC at rc ⊢
    rw [h0, e0 1 (by omega), e0 2 (by omega), e0 3 (by omega), e0 4 (by omega), e0 5 (by omega), e0 6 (by omega), b5, hB 0 (by omega) (by omega) (by omega), hB 1 (by omega) (by omega) (by omega), hB 2 (by omega) (by omega) (by omega), hB 3 (by omega) (by omega) (by omega), hB 4 (by omega) (by omega) (by omega), hB 6 (by omega) (by omega) (by omega)]
    exact ⟨rc.1, rc.2.1, rc.2.2.1, rc.2.2.2.1, rc.2.2.2.2.1, rfl, rc.2.2.2.2.2.2⟩
theorem HP_place {A A' : Mem} {B B' N N' : Int → Int} {m v : Int} (h : HP A B N) (hm : m = A 0 1) (h7 : m < 7) (hA : ∀ k i, 0 ≤ k ∧ k < 20 → ¬ (k = 0 ∧ i = 1) → ¬ (k = 1 ∧ i = m) → A' k i = A k i) (h0 : A' 0 1 = m + 1) (hn : A' 1 m = v) (hB : ∀ i, 0 ≤ i → i < 860 → i ≠ 0 → B' i = B i) (b0 : B' 0 = m + 1) (hN : ∀ i, 0 ≤ i → i < 16 → i ≠ m → N' i = N i) (hNm : N' m = v) : HP A' B' N' := by
  obtain ⟨c, w, s, l, z, rc, rk, rn, zr⟩ := h
  have c' := c
  unfold VC at c'
  have ea : ∀ k, 1 < k ∧ k < 20 → A' k = A k := fun k hk => funext (fun i => hA k i (by omega) (by omega) (by omega))
  have e0 : ∀ i, i ≠ 1 → A' 0 i = A 0 i := fun i hi => hA 0 i (by omega) (by omega) (by omega)
  have e1 : ∀ i, i ≠ m → A' 1 i = A 1 i := fun i hi => hA 1 i (by omega) (by omega) (by omega)
  refine ⟨?_, kW c w (e0 _ (by omega)) (by omega) (ea _ (by omega)) (ea _ (by omega)) (ea _ (by omega)) (fun i a b => hB i (by omega) (by omega) (by omega)), kS_ c s (e0 _ (by omega)) (by omega) (ea _ (by omega)) (fun i a b => hB i (by omega) (by omega) (by omega)), kL c l (e0 _ (by omega)) (by omega) (ea _ (by omega)) (ea _ (by omega)) (ea _ (by omega)) (fun i a b => hB i (by omega) (by omega) (by omega)), ⟨by rw [e0 _ (by omega)]; exact z.1, by rw [ea _ (by omega)]; exact z.2.1, by rw [hB _ (by omega) (by omega) (by omega)]; exact z.2.2⟩, ?_, kK c rk (e0 _ (by omega)) (by rw [e0 _ (by omega)]; omega) (ea _ (by omega)) (fun c _ => by rw [ea _ (by omega)]; omega) (fun i a b => hB i (by omega) (by omega) (by omega)), ?_, kZ zr (e0 _ (by omega)) (ea _ (by omega)) (fun i a b => hB i (by omega) (by omega) (by omega))⟩
  · unfold VC
    rw [h0, e0 0 (by omega), e0 2 (by omega), e0 3 (by omega), e0 4 (by omega), e0 5 (by omega), e0 6 (by omega)]
    omega
  · unfold RC at rc ⊢
    rw [h0, e0 0 (by omega), e0 2 (by omega), e0 3 (by omega), e0 4 (by omega), e0 5 (by omega), e0 6 (by omega), b0, hB 5 (by omega) (by omega) (by omega), hB 1 (by omega) (by omega) (by omega), hB 2 (by omega) (by omega) (by omega), hB 3 (by omega) (by omega) (by omega), hB 4 (by omega) (by omega) (by omega), hB 6 (by omega) (by omega) (by omega)]
    exact ⟨rfl, rc.2⟩
  · obtain ⟨r1, r2, r3⟩ := rn
    refine ⟨fun i hi => ?_, fun i hi => ?_, fun i hi => ?_⟩
    · by_cases e : i = m
      · rw [e, hNm, hn]
      · rw [hN i (by omega) (by omega) e, e1 i e]; exact r1 i (by omega)
    · rw [e0 _ (by omega)] at hi
      rw [hN _ (by omega) (by omega) (by omega), e1 _ (by omega)]; exact r2 i hi
    · rw [e0 _ (by omega)] at hi
      rw [hN _ (by omega) (by omega) (by omega), e1 _ (by omega)]; exact r3 i hi
theorem HP_way {A A' : Mem} {B B' N N' : Int → Int} {m a b x y : Int} (h : HP A B N) (hm : m = A 0 2) (h10 : m < 10) (ha : 0 ≤ a ∧ a < A 0 1) (hb : 0 ≤ b ∧ b < A 0 1) (hab : a ≠ b) (hx : 1 ≤ x ∧ x ≤ 9) (hy : 0 ≤ y ∧ y ≤ 9) (hA : ∀ k i, 0 ≤ k ∧ k < 20 → ¬ (k = 0 ∧ i = 2) → ¬ (k = 2 ∧ (i = 2 * m ∨ i = 2 * m + 1)) → ¬ (k = 3 ∧ i = m) → ¬ (k = 4 ∧ i = m) → A' k i = A k i) (h0 : A' 0 2 = m + 1) (a1 : A' 2 (2 * m) = a) (a2 : A' 2 (2 * m + 1) = b) (a3 : A' 3 m = x) (a4 : A' 4 m = y) (hB : ∀ i, 0 ≤ i → i < 860 → i ≠ 1 → ¬ (10 + 4 * m ≤ i ∧ i ≤ 13 + 4 * m) → B' i = B i) (b0 : B' 1 = m + 1) (b1 : B' (10 + 4 * m) = a) (b2 : B' (11 + 4 * m) = b) (b3 : B' (12 + 4 * m) = x) (b4 : B' (13 + 4 * m) = y) (hN : ∀ i, 0 ≤ i → i < 16 → N' i = N i) : HP A' B' N' := by
  obtain ⟨c, w, s, l, z, rc, rk, rn, zr⟩ := h
  have c' := c
  unfold VC at c'
  have ea : ∀ k, ¬ (k = 0 ∨ k = 2 ∨ k = 3 ∨ k = 4) → 0 ≤ k ∧ k < 20 → A' k = A k := fun k hk hk2 => funext (fun i => hA k i (by omega) (by omega) (by omega) (by omega) (by omega))
  have e0 : ∀ i, i ≠ 2 → A' 0 i = A 0 i := fun i hi => hA 0 i (by omega) (by omega) (by omega) (by omega) (by omega)
  have bb : ∀ i, 50 ≤ i → i < 860 → B' i = B i := fun i p q => hB i (by omega) (by omega) (by omega) (by omega)
  refine ⟨?_, ⟨fun k hk => ?_, fun k hk => ?_⟩, kS_ c s (e0 _ (by omega)) (by rw [e0 _ (by omega)]; omega) (ea _ (by omega) (by omega)) (fun i p q => bb i p (by omega)), kL c l (e0 _ (by omega)) (by rw [e0 _ (by omega)]; omega) (ea _ (by omega) (by omega)) (ea _ (by omega) (by omega)) (ea _ (by omega) (by omega)) (fun i p q => bb i (by omega) (by omega)), ⟨by rw [e0 _ (by omega)]; exact z.1, by rw [ea _ (by omega) (by omega)]; exact z.2.1, by rw [hB _ (by omega) (by omega) (by omega) (by omega)]; exact z.2.2⟩, ?_, kK c rk (e0 _ (by omega)) (by rw [e0 _ (by omega)]; omega) (ea _ (by omega) (by omega)) (fun c _ => by rw [ea _ (by omega) (by omega)]; omega) (fun i p q => bb i (by omega) (by omega)), kN c rn (e0 _ (by omega)) (e0 _ (by omega)) (e0 _ (by omega)) (ea _ (by omega) (by omega)) hN, kZ zr (e0 _ (by omega)) (ea _ (by omega) (by omega)) (fun i p q => bb i (by omega) (by omega))⟩
  · unfold VC
    rw [h0, e0 0 (by omega), e0 1 (by omega), e0 3 (by omega), e0 4 (by omega), e0 5 (by omega), e0 6 (by omega)]
    omega
  · by_cases e : k = m
    · rw [e, a1, a2, a3, a4, e0 _ (by omega)]; exact ⟨ha, hb, hx, hy, hab⟩
    · have := w.1 k (by omega)
      rw [hA 2 (2 * k) (by omega) (by omega) (by omega) (by omega) (by omega), hA 2 (2 * k + 1) (by omega) (by omega) (by omega) (by omega) (by omega), hA 3 k (by omega) (by omega) (by omega) (by omega) (by omega), hA 4 k (by omega) (by omega) (by omega) (by omega) (by omega), e0 _ (by omega)]
      exact this
  · by_cases e : k = m
    · rw [e, a1, a2, a3, a4, b1, b2, b3, b4]; exact ⟨rfl, rfl, rfl, rfl⟩
    · have := w.2 k (by omega)
      rw [hA 2 (2 * k) (by omega) (by omega) (by omega) (by omega) (by omega), hA 2 (2 * k + 1) (by omega) (by omega) (by omega) (by omega) (by omega), hA 3 k (by omega) (by omega) (by omega) (by omega) (by omega), hA 4 k (by omega) (by omega) (by omega) (by omega) (by omega), hB (10 + 4 * k) (by omega) (by omega) (by omega) (by omega), hB (11 + 4 * k) (by omega) (by omega) (by omega) (by omega), hB (12 + 4 * k) (by omega) (by omega) (by omega) (by omega), hB (13 + 4 * k) (by omega) (by omega) (by omega) (by omega)]
      exact this
  · unfold RC at rc ⊢
    rw [h0, e0 0 (by omega), e0 1 (by omega), e0 3 (by omega), e0 4 (by omega), e0 5 (by omega), e0 6 (by omega), b0, hB 0 (by omega) (by omega) (by omega) (by omega), hB 2 (by omega) (by omega) (by omega) (by omega), hB 3 (by omega) (by omega) (by omega) (by omega), hB 4 (by omega) (by omega) (by omega) (by omega), hB 5 (by omega) (by omega) (by omega) (by omega), hB 6 (by omega) (by omega) (by omega) (by omega)]
    exact ⟨rc.1, rfl, rc.2.2⟩
theorem HP_slate {A A' : Mem} {B B' N N' : Int → Int} {m a v : Int} (h : HP A B N) (hm : m = A 0 3) (h4 : m < 4) (ha : 0 ≤ a ∧ a < A 0 1) (hA : ∀ k i, 0 ≤ k ∧ k < 20 → ¬ (k = 0 ∧ i = 3) → ¬ (k = 1 ∧ i = 7 + m) → ¬ (k = 5 ∧ i = m) → A' k i = A k i) (h0 : A' 0 3 = m + 1) (hn : A' 1 (7 + m) = v) (a5 : A' 5 m = a) (hB : ∀ i, 0 ≤ i → i < 860 → i ≠ 2 → i ≠ 50 + m → B' i = B i) (b0 : B' 2 = m + 1) (b1 : B' (50 + m) = a) (hN : ∀ i, 0 ≤ i → i < 16 → i ≠ 7 + m → N' i = N i) (hNm : N' (7 + m) = v) : HP A' B' N' := by
  obtain ⟨c, w, s, l, z, rc, rk, rn, zr⟩ := h
  have c' := c
  unfold VC at c'
  have ea : ∀ k, ¬ (k = 0 ∨ k = 1 ∨ k = 5) → 0 ≤ k ∧ k < 20 → A' k = A k := fun k hk hk2 => funext (fun i => hA k i (by omega) (by omega) (by omega) (by omega))
  have e0 : ∀ i, i ≠ 3 → A' 0 i = A 0 i := fun i hi => hA 0 i (by omega) (by omega) (by omega) (by omega)
  have e1 : ∀ i, i ≠ 7 + m → A' 1 i = A 1 i := fun i hi => hA 1 i (by omega) (by omega) (by omega) (by omega)
  have bb : ∀ i, 54 ≤ i → i < 860 → B' i = B i := fun i p q => hB i (by omega) (by omega) (by omega) (by omega)
  refine ⟨?_, kW c w (e0 _ (by omega)) (by rw [e0 _ (by omega)]; omega) (ea _ (by omega) (by omega)) (ea _ (by omega) (by omega)) (ea _ (by omega) (by omega)) (fun i p q => hB i (by omega) (by omega) (by omega) (by omega)), ⟨fun k hk => ?_, fun k hk => ?_⟩, kL c l (e0 _ (by omega)) (by rw [e0 _ (by omega)]; omega) (ea _ (by omega) (by omega)) (ea _ (by omega) (by omega)) (ea _ (by omega) (by omega)) (fun i p q => bb i (by omega) (by omega)), ⟨by rw [e0 _ (by omega)]; exact z.1, by rw [ea _ (by omega) (by omega)]; exact z.2.1, by rw [hB _ (by omega) (by omega) (by omega) (by omega)]; exact z.2.2⟩, ?_, kK c rk (e0 _ (by omega)) (by rw [e0 _ (by omega)]; omega) (ea _ (by omega) (by omega)) (fun c _ => by rw [ea _ (by omega) (by omega)]; omega) (fun i p q => bb i (by omega) (by omega)), ?_, kZ zr (e0 _ (by omega)) (ea _ (by omega) (by omega)) (fun i p q => bb i (by omega) (by omega))⟩
  · unfold VC
    rw [h0, e0 0 (by omega), e0 1 (by omega), e0 2 (by omega), e0 4 (by omega), e0 5 (by omega), e0 6 (by omega)]
    omega
  · rw [e0 _ (by omega)]
    by_cases e : k = m
    · rw [e, a5]; exact ha
    · rw [hA 5 k (by omega) (by omega) (by omega) (by omega)]; exact s.1 k (by omega)
  · by_cases e : k = m
    · rw [e, a5, b1]
    · rw [hA 5 k (by omega) (by omega) (by omega) (by omega), hB _ (by omega) (by omega) (by omega) (by omega)]; exact s.2 k (by omega)
  · unfold RC at rc ⊢
    rw [h0, e0 0 (by omega), e0 1 (by omega), e0 2 (by omega), e0 4 (by omega), e0 5 (by omega), e0 6 (by omega), b0, hB 0 (by omega) (by omega) (by omega) (by omega), hB 1 (by omega) (by omega) (by omega) (by omega), hB 3 (by omega) (by omega) (by omega) (by omega), hB 4 (by omega) (by omega) (by omega) (by omega), hB 5 (by omega) (by omega) (by omega) (by omega), hB 6 (by omega) (by omega) (by omega) (by omega)]
    exact ⟨rc.1, rc.2.1, rfl, rc.2.2.2⟩
  · obtain ⟨r1, r2, r3⟩ := rn
    refine ⟨fun i hi => ?_, fun i hi => ?_, fun i hi => ?_⟩
    · rw [e0 _ (by omega)] at hi
      rw [hN _ (by omega) (by omega) (by omega), e1 _ (by omega)]; exact r1 i hi
    · by_cases e : i = m
      · rw [e, hNm, hn]
      · rw [hN _ (by omega) (by omega) (by omega), e1 _ (by omega)]; exact r2 i (by omega)
    · rw [e0 _ (by omega)] at hi
      rw [hN _ (by omega) (by omega) (by omega), e1 _ (by omega)]; exact r3 i hi
