/-! ===== H2: mornings, one step of both: an end, a plain step, one that holds others ===== -/
theorem NmC_of {T : Int → Int} {n p : Int} {s u0 u : Mem} (h : MI T n s u0 u p) : NmC s := h.1.2.1
theorem x_end (d D : Nat) {T : Int → Int} {n p : Int} (hT : TX T n) {s : Mem} (hp : 0 ≤ p ∧ p ≤ n) (hk : TkC T n p s) (hs : Cs T n (tke T n p) s) (hw : wOk T n p 19) (hR : ∃ u0 u, MI T n s u0 u p) (i z y : Int) (Q : Int → Mem → Prop) (K1 : ∀ t z y, StP D T n p s 1 t → EV (d + 6) o_MorningsReader_readInto 137 [] [10, 69, 37, i, z, y] t Q) (K0 : ∀ t, StP D T n p s 0 t → Q 0 t) : EV (d + 6) o_MorningsReader_readInto 64 [] [10, 69, 37, i, z, y] s Q := by
  obtain ⟨u0', u', hu'⟩ := hR
  have hcn := hu'.2.2.2.1
  have qw := q_Tword (d + 5) s hk
  rw [if_pos hw.1, hw.2] at qw
  have hlt := tk_lt hp (by rw [hw.1]; omega)
  by_cases c0 : s 10 2 = 0
  · have qe := q_readEnd0 (d + 4) hk c0
    have hx := x_118n d i 1 y Q (no_tok (D := D) (f := 2) (by omega) (fun u0 u hu => st_2 (D + 4) hT hu.2.1 (s 69 2) (s 10 2) hu.2.2.2.2.1.1 (by omega) hu.2.2.2.2.1.2.2.1 (Or.inr (Or.inr ⟨by rw [kw_of hw]; rfl, c0⟩)))) K0
    rw [e_MorningsReader_readInto_64]
    simp (disch := first | assumption | omega) only [rn, wk, al, wr_e, td_e, tm_e, mset_eq, mset_ne, if_pos, if_neg, Int.reduceAdd, Int.reduceSub, Int.reduceMul, Int.reduceNeg, Int.reduceLT, Int.reduceLE, Int.reduceEq, Int.cast_ofNat_Int, eq_self, and_true, true_and, ite_self, true_or, or_true, false_or, or_false, and_false, false_and, not_true_eq_false, not_false_eq_true, if_true, if_false, e_MorningsReader_readInto_0, e_MorningsReader_readInto_58, e_MorningsReader_readInto_62, e_MorningsReader_readInto_63, e_MorningsReader_readInto_80, e_MorningsReader_readInto_81, e_MorningsReader_readInto_96, e_MorningsReader_readInto_117, e_MorningsReader_readInto_135, e_MorningsReader_readInto_143, qw, qe]
    exact hx
  · obtain ⟨l, hl⟩ : ∃ l, s 11 (s 10 2 - 1) = l := ⟨_, rfl⟩
    obtain ⟨m, hm⟩ : ∃ m, s 69 2 = m := ⟨_, rfl⟩
    have lb := (hu'.2.2.2.2.2.1.1 (s 10 2 - 1) (by omega)).1
    rw [hl, hm] at lb
    have qe := q_readEnd1 (d + 5) s l (by omega) (by omega) hl (by omega)
    rw [hm] at qe
    obtain ⟨t, ht⟩ : ∃ t, t = mset (mset (mset (mset (mset s 10 2 (s 10 2 - 1)) 70 m 19) 76 m l) 76 l m) 69 2 (m + 1) := ⟨_, rfl⟩
    rw [← ht] at qe
    have tf : ∀ c i, ¬ (c = 10 ∧ i = 2) → ¬ (c = 70 ∧ i = m) → ¬ (c = 76 ∧ (i = m ∨ i = l)) → ¬ (c = 69 ∧ i = 2) → t c i = s c i := fun c i g1 g2 g3 g4 => by rw [ht, mset_ne (by omega), mset_ne (by omega), mset_ne (by omega), mset_ne (by omega), mset_ne (by omega)]
    have t102 : t 10 2 = s 10 2 - 1 := by rw [ht]; simp (disch := omega) only [mset_ne, mset_eq]
    have t70 : t 70 m = 19 := by rw [ht]; simp (disch := omega) only [mset_ne, mset_eq]
    have t76m : t 76 m = l := by rw [ht, mset_ne (by omega), mset_ne (by omega), mset_eq rfl rfl]
    have t76l : t 76 l = m := by rw [ht, mset_ne (by omega), mset_eq rfl rfl]
    have t692 : t 69 2 = m + 1 := by rw [ht, mset_eq rfl rfl]
    have tc : Cs T n (tke T n p) t := Cs_f (fun c i h => tf c i (by omega) (by omega) (by omega) (by omega)) hs
    have hx := x_118 d D (p := p) (s := s) hT tc i 1 y Q (fun r t2 h2 => ?_) (fun t y => K1 t 1 y) K0
    · rw [e_MorningsReader_readInto_64]
      simp (disch := first | assumption | omega) only [rn, wk, al, wr_e, td_e, tm_e, mset_eq, mset_ne, if_pos, if_neg, Int.reduceAdd, Int.reduceSub, Int.reduceMul, Int.reduceNeg, Int.reduceLT, Int.reduceLE, Int.reduceEq, Int.cast_ofNat_Int, eq_self, and_true, true_and, ite_self, true_or, or_true, false_or, or_false, and_false, false_and, not_true_eq_false, not_false_eq_true, if_true, if_false, e_MorningsReader_readInto_0, e_MorningsReader_readInto_58, e_MorningsReader_readInto_62, e_MorningsReader_readInto_63, e_MorningsReader_readInto_80, e_MorningsReader_readInto_81, e_MorningsReader_readInto_96, e_MorningsReader_readInto_117, e_MorningsReader_readInto_135, e_MorningsReader_readInto_143, qw, qe]
      exact hx
    rcases h2 with ⟨e, ok, f, -, c⟩ | ⟨e, nok, f, g8, g9⟩
    · refine ⟨fun c i g1 g2 g3 g4 => by rw [f c i (by omega)]; exact tf c i g2 (by omega) (by omega) (by omega), Or.inl ⟨e, ⟨by rw [f _ _ (by omega)]; exact tf _ _ (by omega) (by omega) (by omega) (by omega), by rw [f _ _ (by omega)]; exact tf _ _ (by omega) (by omega) (by omega) (by omega)⟩, _, ?_, c, fun u0 u hu => ?_⟩⟩
      · have := cOk_lt hs.1 ok; omega
      · refine rf_end D hT hu hm hw (by omega) hl _ (fun x r2 y xf x9 x22 x23 xq xq4 xl4 hy => ?_)
        rcases hy with ⟨e2, -, yf, yr⟩ | ⟨-, nok, -⟩
        · exact ⟨e2, MI_end hu (by omega) hm hl (fun c i g1 g2 g3 g4 g5 => by rw [f c i (by omega)]; exact tf c i g2 g3 g4 g5) (by rw [f _ _ (by omega)]; exact t102) (by rw [f _ _ (by omega)]; exact t70) (by rw [f _ _ (by omega)]; exact t76m) (by rw [f _ _ (by omega)]; exact t76l) (by rw [f _ _ (by omega)]; exact t692) (fun c i g1 g2 => by rw [yf c i (by omega)]; exact xf c i g1 g2) (by rw [yf _ _ (by omega)]; exact x9) (by rw [yf _ _ (by omega)]; exact x22) (by rw [yf _ _ (by omega)]; exact x23) (by rw [yf _ _ (by omega)]; exact xq) (by rw [yf _ _ (by omega)]; exact xq4) (by rw [yf _ _ (by omega)]; exact xl4) yr⟩
        · exact absurd ok nok
    · refine ⟨fun c i g1 g2 g3 g4 => by rw [f c i (by omega)]; exact tf c i g2 (by omega) (by omega) (by omega), Or.inr ⟨e, by rw [g8]; exact flt_p (by omega), fun u0 u hu => ?_⟩⟩
      rw [g8, g9]
      refine rf_end D hT hu hm hw (by omega) hl _ (fun x r2 y xf x9 x22 x23 xq xq4 xl4 hy => ?_)
      have hum := hu.2.2.2.1
      rcases hy with ⟨-, ok, -⟩ | ⟨e2, -, yf, y8, y9⟩
      · exact absurd ok nok
      · refine ⟨e2, fun c i g1 g2 g3 g4 => ?_, y8, y9⟩
        rw [yf c i (by omega), xf c i (by omega) (by omega)]
        exact hu.2.2.1 c i g1 g2 g3 g4
/-- behind the word of a plain step -/
theorem x_plain (d D : Nat) {T : Int → Int} {n p m w : Int} (hT : TX T n) {s s1 : Mem} (hp : 0 ≤ p ∧ p ≤ n) (hk : TkC T n p s) (hs : Cs T n (tke T n p) s) (hw : wOk T n p w) (hpl : plW w) (hm : s 69 2 = m) (h30 : s 69 1 < 30) (hs1 : s1 = mset (mset (mset s 70 m w) 69 2 (m + 1)) 69 1 (s 69 1 + 1)) (hR : ∃ u0 u, MI T n s u0 u p) : CV (d + 6) 76 [10, 69, 37] s1 (fun r t => (r = 1 ∧ ∃ p1, Cs T n p1 t ∧ ∀ r2 t2, CkP T n p1 t (cOk T n p1) 2 r2 t2 → StP D T n p s r2 t2) ∨ (r = 0 ∧ StP D T n p s 0 t)) := by
  obtain ⟨u0', u', hu'⟩ := hR
  have hcn := hu'.2.2.2.1
  rw [hm] at hcn
  have hlt := tk_lt hp (by rw [hw.1]; omega)
  have sf : ∀ c i, ¬ (c = 70 ∧ i = m) → ¬ (c = 69 ∧ (i = 1 ∨ i = 2)) → s1 c i = s c i := fun c i g1 g2 => by rw [hs1, mset_ne (by omega), mset_ne (by omega), mset_ne (by omega)]
  have s70 : s1 70 m = w := by rw [hs1]; simp (disch := omega) only [mset_ne, mset_eq]
  have s692 : s1 69 2 = m + 1 := by rw [hs1]; simp (disch := omega) only [mset_ne, mset_eq]
  have s691 : s1 69 1 = s 69 1 + 1 := by rw [hs1, mset_eq rfl rfl]
  have k1 : TkC T n p s1 := by
    unfold TkC at hk ⊢
    simp (disch := omega) only [sf]
    exact hk
  have c1 : Cs T n (tke T n p) s1 := Cs_f (fun c i h => sf c i (by omega) (by omega)) hs
  have nm : NmC s1 := by
    have := NmC_of hu'
    unfold NmC at this ⊢
    simp (disch := omega) only [sf]
    exact this
  have hpl' := hpl
  unfold plW at hpl'
  refine CV_mono (x_rest d D hT k1 c1 m w s692 (by omega) nm hw (by omega)) ?_
  rintro r t (⟨e, tf, p1, hp1, ct, ref⟩ | ⟨e, e8, tf, ref⟩)
  · refine Or.inl ⟨e, p1, ct, fun r2 t2 h2 => ?_⟩
    rcases h2 with ⟨e2, ok, f, -, c⟩ | ⟨e2, nok, f, g8, g9⟩
    · have t2f : ∀ c i, ¬ (c = 7 ∧ 3 ≤ i ∧ i ≤ 7) → ¬ (70 ≤ c ∧ c ≤ 75 ∧ i = m) → ¬ (c = 69 ∧ (i = 1 ∨ i = 2)) → t2 c i = s c i := fun c i g1 g2 g3 => by rw [f c i g1, tf c i g1 (by omega)]; exact sf c i (by omega) g3
      have t70 : t2 70 m = w := by rw [f _ _ (by omega), tf _ _ (by omega) (by omega)]; exact s70
      refine ⟨fun c i g1 g2 g3 g4 => t2f c i (by omega) (by omega) (by omega), Or.inl ⟨e2, ⟨t2f _ _ (by omega) (by omega) (by omega), t2f _ _ (by omega) (by omega) (by omega)⟩, _, ?_, c, fun u0 u hu => ?_⟩⟩
      · have := cOk_lt ct.1 ok; omega
      · refine rf_plain D hT hu hm hw hpl h30 (fun c i h => sf c i (by omega) (by omega)) ref _ (fun x r3 y xf x9 x23 xrow hy => ?_)
        rcases hy with ⟨e3, -, yf, yr⟩ | ⟨-, nok, -⟩
        · have row : RowP t2 t2 y m w := RowP_c (f _ _ (by omega)) (f _ _ (by omega)) (f _ _ (by omega)) (fun c hc => f _ _ (by omega)) (fun j hj h4 => yf _ _ (by omega)) (RowP_s (tf _ _ (by omega) (by omega)) (tf _ _ (by omega) (by omega)) (tf _ _ (by omega) (by omega)) xrow)
          refine ⟨e3, MI_plain hu hm h30 (fun c i g1 g2 g3 => t2f c i (by omega) g2 g3) (by rw [t70]; omega) (fun h => by unfold opW at h; rw [t70] at h; omega) (by rw [f _ _ (by omega), tf _ _ (by omega) (by omega)]; exact s692) (by rw [f _ _ (by omega), tf _ _ (by omega) (by omega)]; exact s691) (fun c i g1 g2 => by rw [yf c i (by omega)]; exact xf c i g1 g2) (by rw [yf _ _ (by omega)]; exact x9) (by rw [yf _ _ (by omega)]; exact x23) (by rw [t70]; exact row) yr⟩
        · exact absurd ok nok
    · refine ⟨fun c i g1 g2 g3 g4 => by rw [f c i (by omega), tf c i (by omega) (by omega)]; exact sf c i (by omega) (by omega), Or.inr ⟨e2, by rw [g8]; exact flt_p (by omega), fun u0 u hu => ?_⟩⟩
      rw [g8, g9]
      refine rf_plain D hT hu hm hw hpl h30 (fun c i h => sf c i (by omega) (by omega)) ref _ (fun x r3 y xf x9 x23 xrow hy => ?_)
      rcases hy with ⟨-, ok, -⟩ | ⟨e3, -, yf, y8, y9⟩
      · exact absurd ok nok
      · refine ⟨e3, fun c i g1 g2 g3 g4 => ?_, y8, y9⟩
        rw [yf c i (by omega), xf c i (by omega) (by omega)]
        exact hu.2.2.1 c i g1 g2 g3 g4
  · refine Or.inr ⟨e, fun c i g1 g2 g3 g4 => by rw [tf c i (by omega) (by omega)]; exact sf c i (by omega) (by omega), Or.inr ⟨rfl, e8, fun u0 u hu => ?_⟩⟩
    exact rf_no D hT hu hm hw (Or.inl hpl) h30 (fun c i h => sf c i (by omega) (by omega)) ref
/-- behind the word of a step that holds others -/
theorem x_open (d D : Nat) {T : Int → Int} {n p m w : Int} (hT : TX T n) {s s1 : Mem} (hp : 0 ≤ p ∧ p ≤ n) (hk : TkC T n p s) (hs : Cs T n (tke T n p) s) (hw : wOk T n p w) (hop : w = 15 ∨ w = 18) (hm : s 69 2 = m) (h30 : s 69 1 < 30) (h3 : s 10 2 < 3) (hs1 : s1 = mset (mset (mset (mset (mset s 70 m w) 69 2 (m + 1)) 69 1 (s 69 1 + 1)) 11 (s 10 2) m) 10 2 (s 10 2 + 1)) (hR : ∃ u0 u, MI T n s u0 u p) : CV (d + 6) 76 [10, 69, 37] s1 (fun r t => (r = 1 ∧ ∃ p1, Cs T n p1 t ∧ ∀ r2 t2, CkP T n p1 t (cOk T n p1) 2 r2 t2 → StP D T n p s r2 t2) ∨ (r = 0 ∧ StP D T n p s 0 t)) := by
  obtain ⟨u0', u', hu'⟩ := hR
  have hcn := hu'.2.2.2.1
  rw [hm] at hcn
  have hlt := tk_lt hp (by rw [hw.1]; omega)
  have sf : ∀ c i, ¬ (c = 70 ∧ i = m) → ¬ (c = 69 ∧ (i = 1 ∨ i = 2)) → ¬ (c = 11 ∧ i = s 10 2) → ¬ (c = 10 ∧ i = 2) → s1 c i = s c i := fun c i g1 g2 g3 g4 => by rw [hs1, mset_ne (by omega), mset_ne (by omega), mset_ne (by omega), mset_ne (by omega), mset_ne (by omega)]
  have s70 : s1 70 m = w := by rw [hs1]; simp (disch := omega) only [mset_ne, mset_eq]
  have s692 : s1 69 2 = m + 1 := by rw [hs1]; simp (disch := omega) only [mset_ne, mset_eq]
  have s691 : s1 69 1 = s 69 1 + 1 := by rw [hs1]; simp (disch := omega) only [mset_ne, mset_eq]
  have s11 : s1 11 (s 10 2) = m := by rw [hs1, mset_ne (by omega), mset_eq rfl rfl]
  have s102 : s1 10 2 = s 10 2 + 1 := by rw [hs1, mset_eq rfl rfl]
  have k1 : TkC T n p s1 := by
    unfold TkC at hk ⊢
    simp (disch := omega) only [sf]
    exact hk
  have c1 : Cs T n (tke T n p) s1 := Cs_f (fun c i h => sf c i (by omega) (by omega) (by omega) (by omega)) hs
  have nm : NmC s1 := by
    have := NmC_of hu'
    unfold NmC at this ⊢
    simp (disch := omega) only [sf]
    exact this
  refine CV_mono (x_rest d D hT k1 c1 m w s692 (by omega) nm hw (by omega)) ?_
  rintro r t (⟨e, tf, p1, hp1, ct, ref⟩ | ⟨e, e8, tf, ref⟩)
  · refine Or.inl ⟨e, p1, ct, fun r2 t2 h2 => ?_⟩
    rcases h2 with ⟨e2, ok, f, -, c⟩ | ⟨e2, nok, f, g8, g9⟩
    · have t2f : ∀ c i, ¬ (c = 7 ∧ 3 ≤ i ∧ i ≤ 7) → ¬ (70 ≤ c ∧ c ≤ 75 ∧ i = m) → ¬ (c = 69 ∧ (i = 1 ∨ i = 2)) → ¬ (c = 11 ∧ i = s 10 2) → ¬ (c = 10 ∧ i = 2) → t2 c i = s c i := fun c i g1 g2 g3 g4 g5 => by rw [f c i g1, tf c i g1 (by omega)]; exact sf c i (by omega) g3 g4 g5
      have t70 : t2 70 m = w := by rw [f _ _ (by omega), tf _ _ (by omega) (by omega)]; exact s70
      refine ⟨fun c i g1 g2 g3 g4 => t2f c i (by omega) (by omega) (by omega) (by omega) (by omega), Or.inl ⟨e2, ⟨t2f _ _ (by omega) (by omega) (by omega) (by omega) (by omega), t2f _ _ (by omega) (by omega) (by omega) (by omega) (by omega)⟩, _, ?_, c, fun u0 u hu => ?_⟩⟩
      · have := cOk_lt ct.1 ok; omega
      · refine rf_open D hT hu hm hw hop h30 h3 (fun c i h => sf c i (by omega) (by omega) (by omega) (by omega)) ref _ (fun x r3 y xf x9 x23 x22 x145 xrow hy => ?_)
        rcases hy with ⟨e3, -, yf, yr⟩ | ⟨-, nok, -⟩
        · have row : RowP t2 t2 y m w := RowP_c (f _ _ (by omega)) (f _ _ (by omega)) (f _ _ (by omega)) (fun c hc => f _ _ (by omega)) (fun j hj h4 => yf _ _ (by omega)) (RowP_s (tf _ _ (by omega) (by omega)) (tf _ _ (by omega) (by omega)) (tf _ _ (by omega) (by omega)) xrow)
          refine ⟨e3, MI_open hu hm h30 h3 (fun c i g1 g2 g3 g4 g5 => t2f c i (by omega) g2 g3 g4 g5) (by unfold opW; rw [t70]; exact hop) (by rw [f _ _ (by omega), tf _ _ (by omega) (by omega)]; exact s692) (by rw [f _ _ (by omega), tf _ _ (by omega) (by omega)]; exact s691) (by rw [f _ _ (by omega), tf _ _ (by omega) (by omega)]; exact s102) (by rw [f _ _ (by omega), tf _ _ (by omega) (by omega)]; exact s11) (fun c i g1 g2 g3 => by rw [yf c i (by omega)]; exact xf c i g1 g2 g3) (by rw [yf _ _ (by omega)]; exact x9) (by rw [yf _ _ (by omega)]; exact x23) (by rw [yf _ _ (by omega)]; exact x22) (by rw [yf _ _ (by omega)]; exact x145) (by rw [t70]; exact row) yr⟩
        · exact absurd ok nok
    · refine ⟨fun c i g1 g2 g3 g4 => by rw [f c i (by omega), tf c i (by omega) (by omega)]; exact sf c i (by omega) (by omega) (by omega) g2, Or.inr ⟨e2, by rw [g8]; exact flt_p (by omega), fun u0 u hu => ?_⟩⟩
      rw [g8, g9]
      refine rf_open D hT hu hm hw hop h30 h3 (fun c i h => sf c i (by omega) (by omega) (by omega) (by omega)) ref _ (fun x r3 y xf x9 x23 x22 x145 xrow hy => ?_)
      rcases hy with ⟨-, ok, -⟩ | ⟨e3, -, yf, y8, y9⟩
      · exact absurd ok nok
      · refine ⟨e3, fun c i g1 g2 g3 g4 => ?_, y8, y9⟩
        rw [yf c i (by omega), xf c i (by omega) (by omega) (by omega)]
        exact hu.2.2.1 c i g1 g2 g3 g4
  · refine Or.inr ⟨e, fun c i g1 g2 g3 g4 => by rw [tf c i (by omega) (by omega)]; exact sf c i (by omega) (by omega) (by omega) g2, Or.inr ⟨rfl, e8, fun u0 u hu => ?_⟩⟩
    exact rf_no D hT hu hm hw (Or.inr ⟨hop, h3⟩) h30 (fun c i h => sf c i (by omega) (by omega) (by omega) (by omega)) ref
