/-! ===== H2: live, what a step does to both halls ===== -/
def HRu (h : Int) (s u : Mem) : Prop := HR (win s h) (u 138) (u 139)
def Vh (h : Int) (s : Mem) : Prop := ∃ u, HRu h s u
def Hc (h : Int) (s t : Mem) : Prop := ∀ c i, ¬ (h ≤ c ∧ c ≤ h + 10) → t c i = s c i
def Fr_ (u w : Mem) : Prop := ∀ c i, c ≠ 147 → c ≠ 146 → ¬ (c = 137 ∧ (i = 26 ∨ i = 27)) → ¬ (c = 138 ∧ i < 500) → w c i = u c i
theorem Vh_of {h : Int} {s t : Mem} {d mi : Nat} {f : Mem → List Int} {Q : Mem → Int → Mem → Prop} (hV : Vh h s) (hk : ∀ u, HRu h s u → CV d mi (f u) u (fun r w => Q u r w ∧ HRu h t w)) : Vh h t := by
  obtain ⟨u, hu⟩ := hV
  obtain ⟨r, w, h1, h2, h3⟩ := hk u hu
  exact ⟨w, h3⟩
theorem win0 (s : Mem) (h i : Int) : win s h 0 i = s h i := by show s (h + 0) i = s h i; rw [Int.add_zero]
/-- what is known of the counts of a hall and of the slot -/
theorem HRu_c {h : Int} {s u : Mem} (hu : HRu h s u) : ((0 ≤ s h 0 ∧ s h 0 ≤ 16) ∧ (0 ≤ s h 1 ∧ s h 1 ≤ 7) ∧ (0 ≤ s h 2 ∧ s h 2 ≤ 10) ∧ (0 ≤ s h 3 ∧ s h 3 ≤ 4) ∧ (0 ≤ s h 4 ∧ s h 4 ≤ 5) ∧ (0 ≤ s h 5 ∧ s h 5 ≤ 8) ∧ (0 ≤ s h 6 ∧ s h 6 ≤ 1)) ∧ u 138 0 = s h 1 ∧ u 138 1 = s h 2 ∧ u 138 2 = s h 3 ∧ u 138 3 = s h 4 ∧ u 138 4 = s h 5 ∧ u 138 5 = s h 0 ∧ u 138 6 = s h 6 := by
  have a := hu.1.1
  have b := hu.2.1
  unfold VC at a
  unfold RC at b
  simp only [win0] at a b
  exact ⟨a, b⟩
theorem HRu_l {h : Int} {s u : Mem} (hu : HRu h s u) : ∀ c, 0 ≤ c ∧ c < s h 4 → (0 ≤ s (h + 6) c ∧ s (h + 6) c < s h 1) ∧ (0 ≤ s (h + 7) c ∧ s (h + 7) c ≤ 3) ∧ u 138 (54 + 11 * c) = s (h + 6) c ∧ u 138 (55 + 11 * c) = s (h + 7) c := by
  intro c hc
  have a := hu.1.2.2.2.1 c (by rw [win0]; exact hc)
  have b := hu.2.2.2.2.1 c (by rw [win0]; exact hc)
  rw [win0] at a
  exact ⟨a.1, a.2.1, b.1, b.2.1⟩
theorem a_say (d : Nat) {h : Int} (hh : isH h) (c y b : Int) (s : Mem) (hV : Vh h s) (hb : 0 ≤ b ∧ b ≤ 20) : CV (d + 2) 64 [h, c, y, b] s fun r t => (0 ≤ r ∧ r ≤ 7) ∧ Hc h s t ∧ ∀ d' u, HRu h s u → CV (d' + 4) 286 [137, c, y, b] u fun r' w => (((r = 0 ∧ r' = 0) ∨ (r ≠ 0 ∧ r' ≠ 0)) ∧ Fr_ u w) ∧ HRu h t w := by
  obtain ⟨v, hv⟩ := hV
  obtain ⟨c0, -⟩ := HRu_c hv
  have cl := HRu_l hv
  have hu37 : 37 ≤ h ∧ h ≤ 117 := by unfold isH at hh; omega
  refine CV_mono (q_addCall d hh c y b s (by omega) (by omega) (fun c' h' => (cl c' h').2.1.2) hb) ?_
  have R : ∀ d' u, HRu h s u → CV (d' + 4) 286 [137, c, y, b] u fun r' w => saP u c y b r' w := fun d' u hu => by
    obtain ⟨-, b0⟩ := HRu_c hu
    exact q_says d' c y b u (by omega) (by omega)
  rintro r t ht
  rcases ht with ⟨e1, e2, hx⟩ | ⟨x1, x2, ht⟩
  · subst e1 e2
    refine ⟨by omega, fun _ _ _ => rfl, fun d' u hu => CV_mono (R d' u hu) ?_⟩
    obtain ⟨-, b0⟩ := HRu_c hu
    have bl := HRu_l hu
    rintro r' w (⟨f1, f2, hz⟩ | ⟨z1, z2, hz⟩)
    · subst f1 f2
      exact ⟨⟨Or.inr ⟨by omega, by omega⟩, fun _ _ _ _ _ _ => rfl⟩, hu⟩
    · have := bl c (by omega)
      exfalso; apply hx; omega
  · have x3 := cl c x1
    rcases ht with ⟨e1, e2, h8⟩ | ⟨h8, ⟨e1, e2, hs⟩ | ⟨e1, e2, hs⟩⟩
    · subst e1 e2
      refine ⟨by omega, fun _ _ _ => rfl, fun d' u hu => CV_mono (R d' u hu) ?_⟩
      obtain ⟨-, b0⟩ := HRu_c hu
      have bl := HRu_l hu c x1
      rintro r' w (⟨f1, f2, hz⟩ | ⟨z1, z2, ⟨f1, f2, hz⟩ | ⟨hz, -⟩⟩)
      · exfalso; apply hz; omega
      · subst f1 f2
        exact ⟨⟨Or.inr ⟨by omega, by omega⟩, fun _ _ _ _ _ _ => rfl⟩, hu⟩
      · omega
    · subst e1 e2
      refine ⟨by omega, fun _ _ _ => rfl, fun d' u hu => CV_mono (R d' u hu) ?_⟩
      obtain ⟨-, b0⟩ := HRu_c hu
      have bl := HRu_l hu c x1
      have hi := (spk_iff (s := t) (t := u) (h := h) hu x1 (by omega) hb).mp hs
      rintro r' w (⟨f1, f2, hz⟩ | ⟨z1, z2, ⟨f1, f2, hz⟩ | ⟨hz, ⟨f1, f2, hn⟩ | ⟨f1, f2, hn⟩⟩⟩)
      · exfalso; apply hz; omega
      · omega
      · subst f1 f2
        exact ⟨⟨Or.inr ⟨by omega, by omega⟩, fun _ _ _ _ _ _ => rfl⟩, hu⟩
      · exact absurd hi hn
    · refine ⟨by omega, fun c' i hc' => by rw [e2, mset_ne (by omega), mset_ne (by omega)], fun d' u hu => CV_mono (R d' u hu) ?_⟩
      obtain ⟨-, b0⟩ := HRu_c hu
      have bl := HRu_l hu c x1
      rintro r' w (⟨f1, f2, hz⟩ | ⟨z1, z2, ⟨f1, f2, hz⟩ | ⟨hz, ⟨f1, f2, hn⟩ | ⟨f1, f2, hn⟩⟩⟩)
      · exfalso; apply hz; omega
      · omega
      · exact absurd ((spk_iff (s := s) (t := u) (h := h) hu x1 (by omega) hb).mpr hn) hs
      · have e4 : u 138 4 = s h 5 := by omega
        unfold saT at f2
        rw [e4] at f2
        have e6 : 109 + 3 * s h 5 + 1 = 110 + 3 * s h 5 := by omega
        have e7 : 109 + 3 * s h 5 + 2 = 111 + 3 * s h 5 := by omega
        rw [e6, e7] at f2
        have e8 : s h 5 < 8 := h8
        have e9 : 0 ≤ s h 5 := c0.2.2.2.2.2.1.1
        refine ⟨⟨Or.inl ⟨e1, f1⟩, fun c' i a1 a2 a3 a4 => by rw [f2, mset_ne (by omega), mset_ne (by omega), mset_ne (by omega), mset_ne (by omega)]⟩, ?_⟩
        refine HR_say (c := c) (y := y) (b := b) (n := s h 5) hu (win0 s h 5).symm h8 (by rw [win0]; exact x1) x2 hb ?_ ?_ ?_ ?_ ?_ ?_ ?_ ?_ ?_
        · intro k i h1 h2 h3 h4
          show t (h + k) i = s (h + k) i
          rw [e2, mset_ne (by omega), mset_ne (by omega)]
        · rw [win0, e2, mset_eq rfl rfl]
        · show t (h + 9) (s h 5) = _
          rw [e2, mset_ne (by omega), mset_eq rfl rfl]
        · intro i h1 h2 h3 h4
          rw [f2, mset_ne (by omega), mset_ne (by omega), mset_ne (by omega), mset_ne (by omega)]
        · rw [f2, mset_eq rfl rfl]
        · rw [f2, mset_ne (by omega), mset_ne (by omega), mset_ne (by omega), mset_eq rfl rfl]
        · rw [f2, mset_ne (by omega), mset_ne (by omega), mset_eq rfl rfl]
        · rw [f2, mset_ne (by omega), mset_eq rfl rfl]
        · intro i h1 h2
          rw [f2, mset_ne (by omega), mset_ne (by omega), mset_ne (by omega), mset_ne (by omega)]
/-- the last call is struck -/
theorem a_hush (d : Nat) {h : Int} (hh : isH h) (s : Mem) (hV : Vh h s) (h5 : 0 < s h 5) : CV (d + 1) 103 [h, s h 5 - 1] s fun _ t => Hc h s t ∧ ∀ d' u, HRu h s u → CV (d' + 2) 289 [137, s h 5 - 1] u fun r' w => (r' = 1 ∧ Fr_ u w) ∧ HRu h t w := by
  obtain ⟨v, hv⟩ := hV
  obtain ⟨c0, -⟩ := HRu_c hv
  have hu37 : 37 ≤ h ∧ h ≤ 117 := by unfold isH at hh; omega
  refine CV_of (q_strike d hh s (s h 5 - 1) (by omega) (by omega)) ⟨fun c i hc => by rw [mset_ne (by omega), shl_out (by omega)], fun d' u hu => ?_⟩
  obtain ⟨-, b0⟩ := HRu_c hu
  have e4 : u 138 4 = s h 5 := by omega
  refine CV_of (q_hushes_ok d' u (s h 5 - 1) (by omega) (by omega)) ⟨⟨rfl, fun c i a1 a2 a3 a4 => by rw [shl_out (by omega), mset_ne (by omega)]⟩, ?_⟩
  refine HR_hush (c := s h 5 - 1) (n := s h 5) hu (win0 s h 5).symm (by omega) ?_ ?_ ?_ ?_ ?_ ?_ ?_
  · intro k i h1 h2 h3 h4
    show mset _ h 5 _ (h + k) i = s (h + k) i
    rw [mset_ne (by omega), shl_out (by omega)]
  · rw [win0, mset_eq rfl rfl]
  · intro i h1 h2
    show mset _ h 5 _ (h + 9) i = _
    rw [mset_ne (by omega), shl_out (by omega), if_pos (by omega)]
    rfl
  · intro i h1 h2 h3 h4
    rw [shl_out (by omega), mset_ne (by omega)]
  · rw [shl_out (by omega), mset_eq rfl rfl, e4]
  · intro i h1 h2
    rw [shl_out (by omega), mset_ne (by omega), if_pos (by omega)]
  · intro i h1 h2
    rw [shl_out (by omega), mset_ne (by omega)]
theorem HR_walk {A A' : Mem} {B B' N N' : Int → Int} {c p : Int} (hr : HR A B N) (hc : 0 ≤ c ∧ c < A 0 4) (hp : 0 ≤ p ∧ p < A 0 1)
    (hA : ∀ k i, 0 ≤ k ∧ k < 20 → 0 ≤ i ∧ i < ln k → ¬ (k = 6 ∧ i = c) → A' k i = A k i) (h6 : A' 6 c = p)
    (hB : ∀ i, 0 ≤ i → i < 868 → i ≠ 54 + 11 * c → B' i = B i) (b6 : B' (54 + 11 * c) = p)
    (hN : ∀ i, 0 ≤ i → i < 16 → N' i = N i) : HR A' B' N' := by
  have hr1 := hr.1.1
  unfold VC at hr1
  have hr2 : HR (mset A' 6 c (A 6 c)) (fun i => if i = 54 + 11 * c then B i else B' i) N' := by
    refine HR_congr ?_ ?_ hN hr
    · intro k i h1 h2
      by_cases e : k = 6 ∧ i = c
      · obtain ⟨rfl, rfl⟩ := e
        simp (disch := omega) only [mset_eq]
      · rw [mset_ne (by omega)]
        exact hA k i h1 h2 e
    · intro i h1 h2
      by_cases e : i = 54 + 11 * c
      · simp only [if_pos e]
      · simp only [if_neg e]
        exact hB i h1 h2 e
  have g : ∀ i, 0 ≤ i → i ≤ 6 → A' 0 i = A 0 i := fun i h1 h2 => hA 0 i (by omega) ⟨h1, show i < 7 by omega⟩ (by omega)
  have g1 := g 1 (by omega) (by omega)
  have g4 := g 4 (by omega) (by omega)
  refine ⟨⟨wkeep_VC hr2 (by intros; simp (disch := omega) only [mset_nc, mset_ne, if_neg]), wkeep_VW hr2 (by intros; simp (disch := omega) only [mset_nc, mset_ne, if_neg]) (by intros; simp (disch := omega) only [mset_nc, mset_ne, if_neg]) (by intros; simp (disch := omega) only [mset_nc, mset_ne, if_neg]) (by intros; simp (disch := omega) only [mset_nc, mset_ne, if_neg]) (by intros; simp (disch := omega) only [mset_nc, mset_ne, if_neg]), wkeep_VS hr2 (by intros; simp (disch := omega) only [mset_nc, mset_ne, if_neg]) (by intros; simp (disch := omega) only [mset_nc, mset_ne, if_neg]) (by intros; simp (disch := omega) only [mset_nc, mset_ne, if_neg]), ?_, wkeep_VU hr2 (by intros; simp (disch := omega) only [mset_nc, mset_ne, if_neg]) (by intros; simp (disch := omega) only [mset_nc, mset_ne, if_neg]) (by intros; simp (disch := omega) only [mset_nc, mset_ne, if_neg]), wkeep_VN hr2 (by intros; simp (disch := omega) only [mset_nc, mset_ne, if_neg]) (by intros; simp (disch := omega) only [mset_nc, mset_ne, if_neg]) (by intros; simp (disch := omega) only [mset_nc, mset_ne, if_neg]) (by intros; simp (disch := omega) only [mset_nc, mset_ne, if_neg]) (by intros; simp (disch := omega) only [mset_nc, mset_ne, if_neg]) (by intros; simp (disch := omega) only [mset_nc, mset_ne, if_neg]), wkeep_VT hr2 (by intros; simp (disch := omega) only [mset_nc, mset_ne, if_neg]) (by intros; simp (disch := omega) only [mset_nc, mset_ne, if_neg]) (by intros; simp (disch := omega) only [mset_nc, mset_ne, if_neg]) (by intros; simp (disch := omega) only [mset_nc, mset_ne, if_neg])⟩, wkeep_RC hr2 (by intros; simp (disch := omega) only [mset_nc, mset_ne, if_neg]) (by intros; simp (disch := omega) only [mset_nc, mset_ne, if_neg]), wkeep_RW hr2 (by intros; simp (disch := omega) only [mset_nc, mset_ne, if_neg]) (by intros; simp (disch := omega) only [mset_nc, mset_ne, if_neg]) (by intros; simp (disch := omega) only [mset_nc, mset_ne, if_neg]) (by intros; simp (disch := omega) only [mset_nc, mset_ne, if_neg]) (by intros; simp (disch := omega) only [mset_nc, mset_ne, if_neg]), wkeep_RS hr2 (by intros; simp (disch := omega) only [mset_nc, mset_ne, if_neg]) (by intros; simp (disch := omega) only [mset_nc, mset_ne, if_neg]) (by intros; simp (disch := omega) only [mset_nc, mset_ne, if_neg]), ?_, wkeep_RK hr2 (by intros; simp (disch := omega) only [mset_nc, mset_ne, if_neg]) (by intros; simp (disch := omega) only [mset_nc, mset_ne, if_neg]) (by intros; simp (disch := omega) only [mset_nc, mset_ne, if_neg]) (by intros; simp (disch := omega) only [mset_nc, mset_ne, if_neg]) (by intros; simp (disch := omega) only [mset_nc, mset_ne, if_neg]), wkeep_RU hr2 (by intros; simp (disch := omega) only [mset_nc, mset_ne, if_neg]) (by intros; simp (disch := omega) only [mset_nc, mset_ne, if_neg]) (by intros; simp (disch := omega) only [mset_nc, mset_ne, if_neg]), wkeep_RN hr2 (by intros; simp (disch := omega) only [mset_nc, mset_ne, if_neg]) (by intros; simp (disch := omega) only [mset_nc, mset_ne, if_neg]) (by intros; simp (disch := omega) only [mset_nc, mset_ne, if_neg]) (by intros; simp (disch := omega) only [mset_nc, mset_ne, if_neg]) (by intros; simp (disch := omega) only [mset_nc, mset_ne, if_neg]), wkeep_RT hr2 (by intros; simp (disch := omega) only [mset_nc, mset_ne, if_neg]) (by intros; simp (disch := omega) only [mset_nc, mset_ne, if_neg]) (by intros; simp (disch := omega) only [mset_nc, mset_ne, if_neg])⟩
  · intro c' h'
    have q := hr2.1.2.2.2.1 c' (by rw [mset_ne (by omega)]; exact h')
    by_cases e : c' = c
    · subst e
      refine ⟨by rw [h6, g1]; exact hp, ?_⟩
      have q2 := q.2
      simp (disch := omega) only [mset_ne] at q2
      exact q2
    · simp (disch := omega) only [mset_ne] at q
      exact q
  · intro c' h'
    have q := hr2.2.2.2.2.1 c' (by rw [mset_ne (by omega)]; exact h')
    by_cases e : c' = c
    · subst e
      refine ⟨by rw [h6, b6], ?_⟩
      have q2 := q.2
      simp (disch := omega) only [mset_ne, if_neg] at q2
      refine ⟨q2.1, fun k i hk hi => ?_⟩
      have q3 := q2.2 k i hk hi
      rw [if_neg (by omega)] at q3
      exact q3
    · simp (disch := omega) only [mset_ne, if_neg] at q
      refine ⟨q.1, q.2.1, fun k i hk hi => ?_⟩
      have q3 := q.2.2 k i hk hi
      rw [if_neg (by have := (hr2.1.2.2.2.1 c' (by rw [mset_ne (by omega)]; exact h')).2.1; rw [mset_ne (by omega)] at this; omega)] at q3
      exact q3
theorem a_walk {h : Int} (hh : isH h) (s : Mem) (c p : Int) (hc : 0 ≤ c ∧ c < s h 4) (hp : 0 ≤ p ∧ p < s h 1) (d' : Nat) (u : Mem) (hu : HRu h s u) : Hc h s (mset s (h + 6) c p) ∧ CV (d' + 1) 291 [137, 54 + 11 * c, p] u fun r' w => (((s (h + 6) c = p ∧ r' = 0) ∨ (s (h + 6) c ≠ p ∧ r' = 1)) ∧ Fr_ u w) ∧ HRu h (mset s (h + 6) c p) w := by
  have hu37 : 37 ≤ h ∧ h ≤ 117 := by unfold isH at hh; omega
  obtain ⟨c0, b0⟩ := HRu_c hu
  have bl := HRu_l hu c hc
  refine ⟨fun c' i hc' => by rw [mset_ne (by omega)], CV_of (q_goesTo d' (54 + 11 * c) p u (by omega)) ⟨⟨?_, fun c' i a1 a2 a3 a4 => by rw [mset_ne (by omega)]⟩, ?_⟩⟩
  · rw [bl.2.2.1]
    by_cases e : s (h + 6) c = p
    · left; exact ⟨e, if_pos e⟩
    · right; exact ⟨e, if_neg e⟩
  · refine HR_walk (c := c) (p := p) hu (by rw [win0]; exact hc) (by rw [win0]; exact hp) ?_ ?_ ?_ ?_ ?_
    · intro k i h1 h2 h3
      show mset s (h + 6) c p (h + k) i = s (h + k) i
      rw [mset_ne (by omega)]
    · show mset s (h + 6) c p (h + 6) c = p
      rw [mset_eq rfl rfl]
    · intro i h1 h2 h3
      rw [mset_ne (by omega)]
    · rw [mset_eq rfl rfl]
    · intro i h1 h2
      rw [mset_ne (by omega)]
theorem a_rec (d : Nat) {h : Int} (hh : isH h) (s : Mem) (hV : Vh h s) : CV (d + 5) 112 [h] s fun _ t => Hc h s t ∧ ∀ d' u, HRu h s u → CV (d' + 8) 297 [137] u fun _ w => Fr_ u w ∧ HRu h t w := by
  obtain ⟨v, hv⟩ := hV
  obtain ⟨c0, -⟩ := HRu_c hv
  have hu37 : 37 ≤ h ∧ h ≤ 117 := by unfold isH at hh; omega
  have vb := VB_of hv.1
  have vk := vKs_of hv
  refine CV_mono (q_keepSums d hh s vb vk) ?_
  rintro r t ⟨t1, t2, t3⟩
  refine ⟨fun c i hc => t1 c i (by omega) (by omega), fun d' u hu => CV_mono (q_records d' (win s h) u (RA_of hu) vk) ?_⟩
  rintro r' w ⟨-, w1, w2, w3⟩
  have w3' : ∀ x b, 0 ≤ x ∧ x < 4 → 0 ≤ b ∧ b < 91 → w 138 (134 + 91 * x + b) = if x < s h 3 then sb (win s h) x b else 0 := fun x b hx hb => by
    have := w3 x b hx hb
    rw [win0] at this; exact this
  refine ⟨fun c i a1 a2 a3 a4 => w1 c i a1 a2 a3 (by omega), ?_⟩
  refine HR_rec hu ?_ ?_ ?_ ?_ w2 ?_ ?_
  · intro k i a b e f
    exact t1 (h + k) i (by omega) (by omega)
  · rw [win0]; exact t2
  · intro x b hx hb
    show (0 ≤ t (h + 10) (4 * b + x) ∧ t (h + 10) (4 * b + x) ≤ 999) ∧ (win s h 0 3 ≤ x → t (h + 10) (4 * b + x) = 0)
    rw [t3 x b hx hb, win0]
    by_cases c : x < s h 3
    · have := sb_ok vb vk b (x := x) (by rw [win0]; omega)
      rw [if_pos c]; omega
    · rw [if_neg c]; omega
  · intro i a b e f
    exact w1 _ _ (by omega) (by omega) (by omega) (by omega)
  · intro x b hx hb
    show _ = t (h + 10) (4 * b + x)
    rw [t3 x b hx hb, w3' x b hx hb]
  · intro i a b
    exact w1 _ _ (by omega) (by omega) (by omega) (by omega)
theorem a_sum {h : Int} (s : Mem) (x b : Int) (hx : 0 ≤ x ∧ x < s h 3) (hb : 0 ≤ b ∧ b ≤ 90) (d' : Nat) (u : Mem) (hu : HRu h s u) : CV (d' + 7) 364 [137, x, b] u fun r' w => (r' = sb (win s h) x b ∧ Fr_ u w) ∧ HRu h s w := by
  obtain ⟨c0, b0⟩ := HRu_c hu
  apply c_R_sumOn
  simp (disch := first | assumption | omega) only [rn, wk, al, wr_e, td_e, tm_e, mset_eq, mset_ne, if_pos, if_neg, Int.reduceAdd, Int.reduceSub, Int.reduceMul, Int.reduceNeg, Int.reduceLT, Int.reduceLE, Int.reduceEq, Int.cast_ofNat_Int, eq_self, and_true, true_and, ite_self, true_or, or_true, false_or, or_false, and_false, false_and, not_true_eq_false, not_false_eq_true, if_true, if_false, e_R_sumOn_0]
  refine EV_call (CV_mono (q_laysSums d' (win s h) u (RA_of hu)) ?_)
  rintro r w ⟨w1, w2, w3, w4⟩
  have e := w4 x b (by omega) (by omega)
  rw [win0, if_pos hx.2] at e
  have e138 : w 138 = u 138 := funext (fun i => w1 _ _ (by omega) (by omega) (by omega))
  have e139 : w 139 = u 139 := funext (fun i => w1 _ _ (by omega) (by omega) (by omega))
  have hw : HRu h s w := by unfold HRu; rw [e138, e139]; exact hu
  have hf : Fr_ u w := fun c i a1 a2 a3 a4 => w1 c i a1 a2 a3
  simp (disch := first | assumption | omega) only [rn, wk, al, wr_e, td_e, tm_e, mset_eq, mset_ne, if_pos, if_neg, Int.reduceAdd, Int.reduceSub, Int.reduceMul, Int.reduceNeg, Int.reduceLT, Int.reduceLE, Int.reduceEq, Int.cast_ofNat_Int, eq_self, and_true, true_and, ite_self, true_or, or_true, false_or, or_false, and_false, false_and, not_true_eq_false, not_false_eq_true, if_true, if_false, e_R_sumOn_0, e]
  exact ⟨hf, hw⟩
