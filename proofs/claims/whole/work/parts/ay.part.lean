/-! ===== H2: a hall that is being read: callers, cries, calls ===== -/
theorem HP_caller {A A' : Mem} {B B' N N' : Int → Int} {m a v : Int} (h : HP A B N) (hm : m = A 0 4) (h5 : m < 5) (ha : 0 ≤ a ∧ a < A 0 1) (hA : ∀ k i, 0 ≤ k ∧ k < 20 → ¬ (k = 0 ∧ i = 4) → ¬ (k = 1 ∧ i = 11 + m) → ¬ (k = 6 ∧ i = m) → ¬ (k = 7 ∧ i = m) → A' k i = A k i) (h0 : A' 0 4 = m + 1) (hn : A' 1 (11 + m) = v) (a6 : A' 6 m = a) (a7 : A' 7 m = 0) (hB : ∀ i, 0 ≤ i → i < 860 → i ≠ 3 → i ≠ 54 + 11 * m → B' i = B i) (b0 : B' 3 = m + 1) (b1 : B' (54 + 11 * m) = a) (hN : ∀ i, 0 ≤ i → i < 16 → i ≠ 11 + m → N' i = N i) (hNm : N' (11 + m) = v) : HP A' B' N' := by
  obtain ⟨c, w, s, l, z, rc, rk, rn, zr⟩ := h
  have c' := c
  unfold VC at c'
  have ea : ∀ k, ¬ (k = 0 ∨ k = 1 ∨ k = 6 ∨ k = 7) → 0 ≤ k ∧ k < 20 → A' k = A k := fun k hk hk2 => funext (fun i => hA k i (by omega) (by omega) (by omega) (by omega) (by omega))
  have e0 : ∀ i, i ≠ 4 → A' 0 i = A 0 i := fun i hi => hA 0 i (by omega) (by omega) (by omega) (by omega) (by omega)
  have e1 : ∀ i, i ≠ 11 + m → A' 1 i = A 1 i := fun i hi => hA 1 i (by omega) (by omega) (by omega) (by omega) (by omega)
  have e6 : ∀ i, i ≠ m → A' 6 i = A 6 i := fun i hi => hA 6 i (by omega) (by omega) (by omega) (by omega) (by omega)
  have e7 : ∀ i, i ≠ m → A' 7 i = A 7 i := fun i hi => hA 7 i (by omega) (by omega) (by omega) (by omega) (by omega)
  have e8 := ea 8 (by omega) (by omega)
  have zm := zr m (by omega)
  refine ⟨?_, kW c w (e0 _ (by omega)) (by rw [e0 _ (by omega)]; omega) (ea _ (by omega) (by omega)) (ea _ (by omega) (by omega)) (ea _ (by omega) (by omega)) (fun i p q => hB i (by omega) (by omega) (by omega) (by omega)), kS_ c s (e0 _ (by omega)) (by rw [e0 _ (by omega)]; omega) (ea _ (by omega) (by omega)) (fun i p q => hB i (by omega) (by omega) (by omega) (by omega)), ⟨fun k hk => ?_, fun k hk => ?_⟩, ⟨by rw [e0 _ (by omega)]; exact z.1, by rw [ea _ (by omega) (by omega)]; exact z.2.1, by rw [hB _ (by omega) (by omega) (by omega) (by omega)]; exact z.2.2⟩, ?_, kK c rk (e0 _ (by omega)) (by omega) (ea _ (by omega) (by omega)) (fun c _ => by rw [e7 _ (by omega)]; omega) (fun i p q => hB i (by omega) (by omega) (by omega) (by omega)), ?_, ?_⟩
  · unfold VC
    rw [h0, e0 0 (by omega), e0 1 (by omega), e0 2 (by omega), e0 3 (by omega), e0 5 (by omega), e0 6 (by omega)]
    omega
  · rw [e0 _ (by omega), e8]
    by_cases e : k = m
    · rw [e, a6, a7]; exact ⟨ha, by omega, fun k i hk _ => by omega⟩
    · rw [e6 _ e, e7 _ e]; exact l.1 k (by omega)
  · rw [e8]
    by_cases e : k = m
    · rw [e, a6, a7, b1, hB _ (by omega) (by omega) (by omega) (by omega)]; exact ⟨rfl, zm.1 (by omega), fun k i hk _ => by omega⟩
    · have h3 := (l.1 k (by omega)).2.1
      have := l.2 k (by omega)
      rw [e6 _ e, e7 _ e, hB _ (by omega) (by omega) (by omega) (by omega), hB (55 + 11 * k) (by omega) (by omega) (by omega) (by omega)]
      exact ⟨this.1, this.2.1, fun k' i hk' hi => by rw [hB _ (by omega) (by omega) (by omega) (by omega)]; exact this.2.2 k' i hk' hi⟩
  · unfold RC at rc ⊢
    rw [h0, e0 0 (by omega), e0 1 (by omega), e0 2 (by omega), e0 3 (by omega), e0 5 (by omega), e0 6 (by omega), b0, hB 0 (by omega) (by omega) (by omega) (by omega), hB 1 (by omega) (by omega) (by omega) (by omega), hB 2 (by omega) (by omega) (by omega) (by omega), hB 4 (by omega) (by omega) (by omega) (by omega), hB 5 (by omega) (by omega) (by omega) (by omega), hB 6 (by omega) (by omega) (by omega) (by omega)]
    exact ⟨rc.1, rc.2.1, rc.2.2.1, rfl, rc.2.2.2.2⟩
  · obtain ⟨r1, r2, r3⟩ := rn
    refine ⟨fun i hi => ?_, fun i hi => ?_, fun i hi => ?_⟩
    · rw [e0 _ (by omega)] at hi
      rw [hN _ (by omega) (by omega) (by omega), e1 _ (by omega)]; exact r1 i hi
    · rw [e0 _ (by omega)] at hi
      rw [hN _ (by omega) (by omega) (by omega), e1 _ (by omega)]; exact r2 i hi
    · by_cases e : i = m
      · rw [e, hNm, hn]
      · rw [hN _ (by omega) (by omega) (by omega), e1 _ (by omega)]; exact r3 i (by omega)
  · intro k hk
    obtain ⟨p, q⟩ := zr k hk
    refine ⟨fun x => ?_, fun k' i hk' hi x => ?_⟩
    · rw [hB _ (by omega) (by omega) (by omega) (by omega)]; exact p (by omega)
    · have hne : 56 + 11 * k + 3 * k' + i ≠ 54 + 11 * m := by
        obtain e | e | e : k' = 0 ∨ k' = 1 ∨ k' = 2 := by omega
        all_goals (rw [e]; omega)
      rw [hB _ (by omega) (by omega) (by omega) hne]
      refine q k' i hk' hi (fun y => ?_)
      have := x (by omega)
      rw [e7 _ (by omega)] at this
      exact this
theorem HP_cry {A A' : Mem} {B B' N N' : Int → Int} {c k : Int} {x : Int → Int} (h : HP A B N) (hc : 0 ≤ c ∧ c < A 0 4) (hk : k = A 7 c) (h3 : k < 3) (hx : ∀ i, 0 ≤ i ∧ i < 3 → 0 ≤ x i ∧ x i ≤ 99) (hA : ∀ j i, 0 ≤ j ∧ j < 20 → ¬ (j = 7 ∧ i = c) → ¬ (j = 8 ∧ 9 * c + 3 * k ≤ i ∧ i < 9 * c + 3 * k + 3) → A' j i = A j i) (a7 : A' 7 c = k + 1) (a8 : ∀ i, 0 ≤ i ∧ i < 3 → A' 8 (9 * c + 3 * k + i) = x i) (hB : ∀ i, 0 ≤ i → i < 860 → i ≠ 55 + 11 * c → ¬ (56 + 11 * c + 3 * k ≤ i ∧ i < 59 + 11 * c + 3 * k) → B' i = B i) (b0 : B' (55 + 11 * c) = k + 1) (b1 : ∀ i, 0 ≤ i ∧ i < 3 → B' (56 + 11 * c + 3 * k + i) = x i) (hN : ∀ i, 0 ≤ i → i < 16 → N' i = N i) : HP A' B' N' := by
  obtain ⟨vc, w, s, l, z, rc, rk, rn, zr⟩ := h
  have c' := vc
  unfold VC at c'
  have lc := l.1 c hc
  have ea : ∀ j, ¬ (j = 7 ∨ j = 8) → 0 ≤ j ∧ j < 20 → A' j = A j := fun j hk hk2 => funext (fun i => hA j i (by omega) (by omega) (by omega))
  have e0 := ea 0 (by omega) (by omega)
  have e7 : ∀ i, i ≠ c → A' 7 i = A 7 i := fun i hi => hA 7 i (by omega) (by omega) (by omega)
  refine ⟨?_, kW vc w (by rw [e0]) (by rw [e0]; omega) (ea _ (by omega) (by omega)) (ea _ (by omega) (by omega)) (ea _ (by omega) (by omega)) (fun i p q => hB i (by omega) (by omega) (by omega) (by omega)), kS_ vc s (by rw [e0]) (by rw [e0]; omega) (ea _ (by omega) (by omega)) (fun i p q => hB i (by omega) (by omega) (by omega) (by omega)), ⟨fun j hj => ?_, fun j hj => ?_⟩, ⟨by rw [e0]; exact z.1, by rw [ea _ (by omega) (by omega)]; exact z.2.1, by rw [hB _ (by omega) (by omega) (by omega) (by omega)]; exact z.2.2⟩, ?_, kK vc rk (by rw [e0]) (by rw [e0]; omega) (ea _ (by omega) (by omega)) (fun j _ => ?_) (fun i p q => hB i (by omega) (by omega) (by omega) (by omega)), kN vc rn (by rw [e0]) (by rw [e0]) (by rw [e0]) (ea _ (by omega) (by omega)) hN, ?_⟩
  · unfold VC
    rw [e0]; exact vc
  · rw [e0] at hj ⊢
    rw [ea 6 (by omega) (by omega)]
    have lj := l.1 j hj
    by_cases e : j = c
    · subst e
      refine ⟨lj.1, by omega, fun k' i hk' hi => ?_⟩
      by_cases e2 : k' = k
      · rw [e2, a8 i hi]; exact hx i hi
      · rw [hA 8 _ (by omega) (by omega) (by omega)]; exact lj.2.2 k' i (by omega) hi
    · rw [e7 _ e]
      refine ⟨lj.1, lj.2.1, fun k' i hk' hi => ?_⟩
      rw [hA 8 _ (by omega) (by omega) (by omega)]; exact lj.2.2 k' i hk' hi
  · rw [e0] at hj
    rw [ea 6 (by omega) (by omega)]
    have lj := l.1 j hj
    have rj := l.2 j hj
    by_cases e : j = c
    · subst e
      refine ⟨by rw [hB _ (by omega) (by omega) (by omega) (by omega)]; exact rj.1, by rw [b0, a7], fun k' i hk' hi => ?_⟩
      by_cases e2 : k' = k
      · rw [e2, a8 i hi, b1 i hi]
      · rw [hA 8 _ (by omega) (by omega) (by omega), hB _ (by omega) (by omega) (by omega) (by omega)]; exact rj.2.2 k' i (by omega) hi
    · rw [e7 _ e]
      refine ⟨by rw [hB _ (by omega) (by omega) (by omega) (by omega)]; exact rj.1, by rw [hB _ (by omega) (by omega) (by omega) (by omega)]; exact rj.2.1, fun k' i hk' hi => ?_⟩
      rw [hA 8 _ (by omega) (by omega) (by omega), hB _ (by omega) (by omega) (by omega) (by omega)]; exact rj.2.2 k' i hk' hi
  · unfold RC at rc ⊢
    rw [e0, hB 0 (by omega) (by omega) (by omega) (by omega), hB 1 (by omega) (by omega) (by omega) (by omega), hB 2 (by omega) (by omega) (by omega) (by omega), hB 3 (by omega) (by omega) (by omega) (by omega), hB 4 (by omega) (by omega) (by omega) (by omega), hB 5 (by omega) (by omega) (by omega) (by omega), hB 6 (by omega) (by omega) (by omega) (by omega)]
    exact rc
  · by_cases e : j = c
    · rw [e, a7]; omega
    · rw [e7 _ e]; omega
  · intro j hj
    obtain ⟨p, q⟩ := zr j hj
    rw [e0]
    refine ⟨fun y => ?_, fun k' i hk' hi y => ?_⟩
    · rw [hB _ (by omega) (by omega) (by omega) (by omega)]; exact p y
    · by_cases e : j = c
      · subst e
        have := y hc.2
        rw [hB _ (by omega) (by omega) (by omega) (by omega)]
        exact q k' i hk' hi (fun _ => by omega)
      · rw [hB _ (by omega) (by omega) (by omega) (by omega)]
        refine q k' i hk' hi (fun y' => ?_)
        have := y y'
        rw [e7 _ e] at this; exact this
theorem HP_call {A A' : Mem} {B B' N N' : Int → Int} {m c y b : Int} (h : HP A B N) (hm : m = A 0 5) (h8 : m < 8) (hc : 0 ≤ c ∧ c < A 0 4) (hy : 0 ≤ y ∧ y < A 7 c) (hb : 0 ≤ b ∧ b ≤ 20) (hA : ∀ k i, 0 ≤ k ∧ k < 20 → ¬ (k = 0 ∧ i = 5) → ¬ (k = 9 ∧ i = m) → A' k i = A k i) (h5 : A' 0 5 = m + 1) (h9 : A' 9 m = 63 * c + 21 * y + b) (hB : ∀ i, 0 ≤ i → i < 860 → i ≠ 4 → ¬ (109 + 3 * m ≤ i ∧ i ≤ 111 + 3 * m) → B' i = B i) (b4 : B' 4 = m + 1) (b0 : B' (109 + 3 * m) = c) (b1 : B' (110 + 3 * m) = y) (b2 : B' (111 + 3 * m) = b) (hN : ∀ i, 0 ≤ i → i < 16 → N' i = N i) : HP A' B' N' := by
  obtain ⟨vc, w, s, l, z, rc, rk, rn, zr⟩ := h
  have c' := vc
  unfold VC at c'
  have ea : ∀ k, ¬ (k = 0 ∨ k = 9) → 0 ≤ k ∧ k < 20 → A' k = A k := fun k hk hk2 => funext (fun i => hA k i (by omega) (by omega) (by omega))
  have e0 : ∀ i, i ≠ 5 → A' 0 i = A 0 i := fun i hi => hA 0 i (by omega) (by omega) (by omega)
  have e7 := ea 7 (by omega) (by omega)
  have bb : ∀ i, 5 ≤ i → i < 109 → B' i = B i := fun i p q => hB i (by omega) (by omega) (by omega) (by omega)
  refine ⟨?_, kW vc w (e0 _ (by omega)) (by rw [e0 _ (by omega)]; omega) (ea _ (by omega) (by omega)) (ea _ (by omega) (by omega)) (ea _ (by omega) (by omega)) (fun i p q => bb i (by omega) (by omega)), kS_ vc s (e0 _ (by omega)) (by rw [e0 _ (by omega)]; omega) (ea _ (by omega) (by omega)) (fun i p q => bb i (by omega) (by omega)), kL vc l (e0 _ (by omega)) (by rw [e0 _ (by omega)]; omega) (ea _ (by omega) (by omega)) (ea _ (by omega) (by omega)) (ea _ (by omega) (by omega)) (fun i p q => bb i (by omega) (by omega)), ⟨by rw [e0 _ (by omega)]; exact z.1, by rw [ea _ (by omega) (by omega)]; exact z.2.1, by rw [bb _ (by omega) (by omega)]; exact z.2.2⟩, ?_, fun k hk => ?_, kN vc rn (e0 _ (by omega)) (e0 _ (by omega)) (e0 _ (by omega)) (ea _ (by omega) (by omega)) hN, kZ zr (e0 _ (by omega)) (ea _ (by omega) (by omega)) (fun i p q => bb i (by omega) (by omega))⟩
  · unfold VC
    rw [h5, e0 0 (by omega), e0 1 (by omega), e0 2 (by omega), e0 3 (by omega), e0 4 (by omega), e0 6 (by omega)]
    omega
  · unfold RC at rc ⊢
    rw [h5, e0 0 (by omega), e0 1 (by omega), e0 2 (by omega), e0 3 (by omega), e0 4 (by omega), e0 6 (by omega), b4, hB 0 (by omega) (by omega) (by omega) (by omega), hB 1 (by omega) (by omega) (by omega) (by omega), hB 2 (by omega) (by omega) (by omega) (by omega), hB 3 (by omega) (by omega) (by omega) (by omega), bb 5 (by omega) (by omega), bb 6 (by omega) (by omega)]
    exact ⟨rc.1, rc.2.1, rc.2.2.1, rc.2.2.2.1, rfl, rc.2.2.2.2.2⟩
  · rw [e7, e0 4 (by omega)]
    by_cases e : k = m
    · rw [e, h9, b0, b1, b2]; exact ⟨rfl, hc, hy, hb⟩
    · rw [hA 9 k (by omega) (by omega) (by omega), hB (109 + 3 * k) (by omega) (by omega) (by omega) (by omega), hB (110 + 3 * k) (by omega) (by omega) (by omega) (by omega), hB (111 + 3 * k) (by omega) (by omega) (by omega) (by omega)]
      exact rk k (by omega)
/-! the class's names -/
def NxP (T : Int → Int) (n p : Int) (s : Mem) (k r : Int) (t : Mem) : Prop := (r = k ∧ k ≠ -1 ∧ isNm T n p ∧ Fta s t ∧ TkC T n p t ∧ Cs T n (tke T n p) t) ∨ (r = -1 ∧ Ftf s t ∧ t 7 9 = tkq T n p ∧ ((¬ isNm T n p ∧ t 7 8 = flt T n p 2) ∨ (isNm T n p ∧ k = -1 ∧ t 7 8 = flt T n p 3)))
theorem q_placeNext (d : Nat) {T : Int → Int} {n p : Int} (hT : TX T n) {s : Mem} (hs : Cs T n p s) (h1 : 0 ≤ s 57 1 ∧ s 57 1 ≤ 7) : CV (d + 4) 52 [9, 57] s (NxP T n p s (ixa (s 58) (nmT T n p) 0 (s 57 1))) := by
  apply c_HallReader_placeNext
  simp (disch := first | assumption | omega) only [rn, wk, al, wr_e, td_e, tm_e, mset_eq, mset_ne, if_pos, if_neg, Int.reduceAdd, Int.reduceSub, Int.reduceMul, Int.reduceNeg, Int.reduceLT, Int.reduceLE, Int.reduceEq, Int.cast_ofNat_Int, eq_self, and_true, true_and, ite_self, true_or, or_true, false_or, or_false, and_false, false_and, not_true_eq_false, not_false_eq_true, if_true, if_false, e_HallReader_placeNext_0, e_HallReader_placeNext_12, e_HallReader_placeNext_38]
  refine EV_call (CV_mono (q_nameNext d hT hs) ?_)
  rintro r t (⟨e, ok, f, k, c⟩ | ⟨e, nok, f, g8, g9⟩)
  · subst e
    have g7 : t 7 7 = nmT T n p := (k.2.2.2.2.1 ok.1).2
    have t1 : t 57 1 = s 57 1 := f _ _ (by omega)
    have t58 : t (57 + 1) = s 58 := funext (fun i => f _ _ (by omega))
    have qp := q_placeNamed (d + 1) isH57 t (nmT T n p) (by omega)
    rw [t1, t58] at qp
    obtain ⟨x, hx⟩ : ∃ x, x = ixa (s 58) (nmT T n p) 0 (s 57 1) := ⟨_, rfl⟩
    rw [← hx] at qp
    by_cases cx : x = -1
    · have q3 := q_Trefuse (d + 2) t 3 k
      have hp : NxP T n p s (ixa (s 58) (nmT T n p) 0 (s 57 1)) (-1) (mset (mset t 7 8 (flt T n p 3)) 7 9 (tkq T n p)) := Or.inr ⟨rfl, fun c i hc => by rw [mset_ne (by omega), mset_ne (by omega)]; exact f c i (by omega), mset_eq rfl rfl, Or.inr ⟨ok, by rw [← hx]; exact cx, by rw [mset_ne (by omega), mset_eq rfl rfl]⟩⟩
      rw [cx] at qp
      simp (disch := first | assumption | omega) only [rn, wk, al, wr_e, td_e, tm_e, mset_eq, mset_ne, if_pos, if_neg, Int.reduceAdd, Int.reduceSub, Int.reduceMul, Int.reduceNeg, Int.reduceLT, Int.reduceLE, Int.reduceEq, Int.cast_ofNat_Int, eq_self, and_true, true_and, ite_self, true_or, or_true, false_or, or_false, and_false, false_and, not_true_eq_false, not_false_eq_true, if_true, if_false, e_HallReader_placeNext_0, e_HallReader_placeNext_12, e_HallReader_placeNext_38, g7, qp, q3]
      exact hp
    · have hp : NxP T n p s (ixa (s 58) (nmT T n p) 0 (s 57 1)) x t := Or.inl ⟨hx, by rw [← hx]; exact cx, ok, f, k, c⟩
      simp (disch := first | assumption | omega) only [rn, wk, al, wr_e, td_e, tm_e, mset_eq, mset_ne, if_pos, if_neg, Int.reduceAdd, Int.reduceSub, Int.reduceMul, Int.reduceNeg, Int.reduceLT, Int.reduceLE, Int.reduceEq, Int.cast_ofNat_Int, eq_self, and_true, true_and, ite_self, true_or, or_true, false_or, or_false, and_false, false_and, not_true_eq_false, not_false_eq_true, if_true, if_false, e_HallReader_placeNext_0, e_HallReader_placeNext_12, e_HallReader_placeNext_38, g7, qp, cx]
      exact hp
  · subst e
    have hp : NxP T n p s (ixa (s 58) (nmT T n p) 0 (s 57 1)) (-1) t := Or.inr ⟨rfl, f, g9, Or.inl ⟨nok, g8⟩⟩
    simp (disch := first | assumption | omega) only [rn, wk, al, wr_e, td_e, tm_e, mset_eq, mset_ne, if_pos, if_neg, Int.reduceAdd, Int.reduceSub, Int.reduceMul, Int.reduceNeg, Int.reduceLT, Int.reduceLE, Int.reduceEq, Int.cast_ofNat_Int, eq_self, and_true, true_and, ite_self, true_or, or_true, false_or, or_false, and_false, false_and, not_true_eq_false, not_false_eq_true, if_true, if_false, e_HallReader_placeNext_0, e_HallReader_placeNext_12, e_HallReader_placeNext_38]
    exact hp
theorem q_callerNext (d : Nat) {T : Int → Int} {n p : Int} (hT : TX T n) {s : Mem} (hs : Cs T n p s) (h1 : 0 ≤ s 57 4 ∧ s 57 4 ≤ 5) : CV (d + 4) 60 [9, 57] s (NxP T n p s (ixa (s 58) (nmT T n p) 11 (s 57 4))) := by
  apply c_HallReader_callerNext
  simp (disch := first | assumption | omega) only [rn, wk, al, wr_e, td_e, tm_e, mset_eq, mset_ne, if_pos, if_neg, Int.reduceAdd, Int.reduceSub, Int.reduceMul, Int.reduceNeg, Int.reduceLT, Int.reduceLE, Int.reduceEq, Int.cast_ofNat_Int, eq_self, and_true, true_and, ite_self, true_or, or_true, false_or, or_false, and_false, false_and, not_true_eq_false, not_false_eq_true, if_true, if_false, e_HallReader_callerNext_0, e_HallReader_callerNext_12, e_HallReader_callerNext_38]
  refine EV_call (CV_mono (q_nameNext d hT hs) ?_)
  rintro r t (⟨e, ok, f, k, c⟩ | ⟨e, nok, f, g8, g9⟩)
  · subst e
    have g7 : t 7 7 = nmT T n p := (k.2.2.2.2.1 ok.1).2
    have t1 : t 57 4 = s 57 4 := f _ _ (by omega)
    have t58 : t (57 + 1) = s 58 := funext (fun i => f _ _ (by omega))
    have qp := q_callerNamed (d + 1) isH57 t (nmT T n p) (by omega)
    rw [t1, t58] at qp
    obtain ⟨x, hx⟩ : ∃ x, x = ixa (s 58) (nmT T n p) 11 (s 57 4) := ⟨_, rfl⟩
    rw [← hx] at qp
    by_cases cx : x = -1
    · have q3 := q_Trefuse (d + 2) t 3 k
      have hp : NxP T n p s (ixa (s 58) (nmT T n p) 11 (s 57 4)) (-1) (mset (mset t 7 8 (flt T n p 3)) 7 9 (tkq T n p)) := Or.inr ⟨rfl, fun c i hc => by rw [mset_ne (by omega), mset_ne (by omega)]; exact f c i (by omega), mset_eq rfl rfl, Or.inr ⟨ok, by rw [← hx]; exact cx, by rw [mset_ne (by omega), mset_eq rfl rfl]⟩⟩
      rw [cx] at qp
      simp (disch := first | assumption | omega) only [rn, wk, al, wr_e, td_e, tm_e, mset_eq, mset_ne, if_pos, if_neg, Int.reduceAdd, Int.reduceSub, Int.reduceMul, Int.reduceNeg, Int.reduceLT, Int.reduceLE, Int.reduceEq, Int.cast_ofNat_Int, eq_self, and_true, true_and, ite_self, true_or, or_true, false_or, or_false, and_false, false_and, not_true_eq_false, not_false_eq_true, if_true, if_false, e_HallReader_callerNext_0, e_HallReader_callerNext_12, e_HallReader_callerNext_38, g7, qp, q3]
      exact hp
    · have hp : NxP T n p s (ixa (s 58) (nmT T n p) 11 (s 57 4)) x t := Or.inl ⟨hx, by rw [← hx]; exact cx, ok, f, k, c⟩
      simp (disch := first | assumption | omega) only [rn, wk, al, wr_e, td_e, tm_e, mset_eq, mset_ne, if_pos, if_neg, Int.reduceAdd, Int.reduceSub, Int.reduceMul, Int.reduceNeg, Int.reduceLT, Int.reduceLE, Int.reduceEq, Int.cast_ofNat_Int, eq_self, and_true, true_and, ite_self, true_or, or_true, false_or, or_false, and_false, false_and, not_true_eq_false, not_false_eq_true, if_true, if_false, e_HallReader_callerNext_0, e_HallReader_callerNext_12, e_HallReader_callerNext_38, g7, qp, cx]
      exact hp
  · subst e
    have hp : NxP T n p s (ixa (s 58) (nmT T n p) 11 (s 57 4)) (-1) t := Or.inr ⟨rfl, f, g9, Or.inl ⟨nok, g8⟩⟩
    simp (disch := first | assumption | omega) only [rn, wk, al, wr_e, td_e, tm_e, mset_eq, mset_ne, if_pos, if_neg, Int.reduceAdd, Int.reduceSub, Int.reduceMul, Int.reduceNeg, Int.reduceLT, Int.reduceLE, Int.reduceEq, Int.cast_ofNat_Int, eq_self, and_true, true_and, ite_self, true_or, or_true, false_or, or_false, and_false, false_and, not_true_eq_false, not_false_eq_true, if_true, if_false, e_HallReader_callerNext_0, e_HallReader_callerNext_12, e_HallReader_callerNext_38]
    exact hp
def WnP (T : Int → Int) (n p : Int) (s : Mem) (tk : Prop) (r : Int) (t : Mem) : Prop := (r = 1 ∧ isNm T n p ∧ ¬ tk ∧ Fta s t ∧ TkC T n p t ∧ Cs T n (tke T n p) t) ∨ (r = 0 ∧ Ftf s t ∧ t 7 9 = tkq T n p ∧ ((¬ isNm T n p ∧ t 7 8 = flt T n p 2) ∨ (isNm T n p ∧ tk ∧ t 7 8 = flt T n p 3)))
theorem q_newNameNext (d : Nat) {T : Int → Int} {n p : Int} (hT : TX T n) {s : Mem} (hs : Cs T n p s) (h1 : 0 ≤ s 57 1 ∧ s 57 1 ≤ 7) (h3 : 0 ≤ s 57 3 ∧ s 57 3 ≤ 4) (h4 : 0 ≤ s 57 4 ∧ s 57 4 ≤ 5) : CV (d + 4) 43 [9, 57] s (WnP T n p s (tkn (s 58) (nmT T n p) (s 57 1) (s 57 3) (s 57 4))) := by
  apply c_HallReader_newNameNext
  simp (disch := first | assumption | omega) only [rn, wk, al, wr_e, td_e, tm_e, mset_eq, mset_ne, if_pos, if_neg, Int.reduceAdd, Int.reduceSub, Int.reduceMul, Int.reduceNeg, Int.reduceLT, Int.reduceLE, Int.reduceEq, Int.cast_ofNat_Int, eq_self, and_true, true_and, ite_self, true_or, or_true, false_or, or_false, and_false, false_and, not_true_eq_false, not_false_eq_true, if_true, if_false, e_HallReader_newNameNext_0, e_HallReader_newNameNext_12, e_HallReader_newNameNext_37, e_HallReader_newNameNext_41, e_HallReader_newNameNext_42]
  refine EV_call (CV_mono (q_nameNext d hT hs) ?_)
  rintro r t (⟨e, ok, f, k, c⟩ | ⟨e, nok, f, g8, g9⟩)
  · subst e
    have g7 : t 7 7 = nmT T n p := (k.2.2.2.2.1 ok.1).2
    have t1 : t 57 1 = s 57 1 := f _ _ (by omega)
    have t3 : t 57 3 = s 57 3 := f _ _ (by omega)
    have t4 : t 57 4 = s 57 4 := f _ _ (by omega)
    have t58 : t (57 + 1) = s 58 := funext (fun i => f _ _ (by omega))
    obtain ⟨b, hb, qt⟩ := q_isTaken d isH57 t (nmT T n p) (by omega) (by omega) (by omega)
    rw [t1, t3, t4, t58] at hb
    rcases hb with ⟨e, hb⟩ | ⟨e, hb⟩
    · subst e
      have q3 := q_Trefuse (d + 2) t 3 k
      have hp : WnP T n p s (tkn (s 58) (nmT T n p) (s 57 1) (s 57 3) (s 57 4)) 0 (mset (mset t 7 8 (flt T n p 3)) 7 9 (tkq T n p)) := Or.inr ⟨rfl, fun c i hc => by rw [mset_ne (by omega), mset_ne (by omega)]; exact f c i (by omega), mset_eq rfl rfl, Or.inr ⟨ok, hb, by rw [mset_ne (by omega), mset_eq rfl rfl]⟩⟩
      simp (disch := first | assumption | omega) only [rn, wk, al, wr_e, td_e, tm_e, mset_eq, mset_ne, if_pos, if_neg, Int.reduceAdd, Int.reduceSub, Int.reduceMul, Int.reduceNeg, Int.reduceLT, Int.reduceLE, Int.reduceEq, Int.cast_ofNat_Int, eq_self, and_true, true_and, ite_self, true_or, or_true, false_or, or_false, and_false, false_and, not_true_eq_false, not_false_eq_true, if_true, if_false, e_HallReader_newNameNext_0, e_HallReader_newNameNext_12, e_HallReader_newNameNext_37, e_HallReader_newNameNext_41, e_HallReader_newNameNext_42, g7, qt, q3]
      exact hp
    · subst e
      have hp : WnP T n p s (tkn (s 58) (nmT T n p) (s 57 1) (s 57 3) (s 57 4)) 1 t := Or.inl ⟨rfl, ok, hb, f, k, c⟩
      simp (disch := first | assumption | omega) only [rn, wk, al, wr_e, td_e, tm_e, mset_eq, mset_ne, if_pos, if_neg, Int.reduceAdd, Int.reduceSub, Int.reduceMul, Int.reduceNeg, Int.reduceLT, Int.reduceLE, Int.reduceEq, Int.cast_ofNat_Int, eq_self, and_true, true_and, ite_self, true_or, or_true, false_or, or_false, and_false, false_and, not_true_eq_false, not_false_eq_true, if_true, if_false, e_HallReader_newNameNext_0, e_HallReader_newNameNext_12, e_HallReader_newNameNext_37, e_HallReader_newNameNext_41, e_HallReader_newNameNext_42, g7, qt]
      exact hp
  · subst e
    have hp : WnP T n p s (tkn (s 58) (nmT T n p) (s 57 1) (s 57 3) (s 57 4)) 0 t := Or.inr ⟨rfl, f, g9, Or.inl ⟨nok, g8⟩⟩
    simp (disch := first | assumption | omega) only [rn, wk, al, wr_e, td_e, tm_e, mset_eq, mset_ne, if_pos, if_neg, Int.reduceAdd, Int.reduceSub, Int.reduceMul, Int.reduceNeg, Int.reduceLT, Int.reduceLE, Int.reduceEq, Int.cast_ofNat_Int, eq_self, and_true, true_and, ite_self, true_or, or_true, false_or, or_false, and_false, false_and, not_true_eq_false, not_false_eq_true, if_true, if_false, e_HallReader_newNameNext_0, e_HallReader_newNameNext_12, e_HallReader_newNameNext_37, e_HallReader_newNameNext_41, e_HallReader_newNameNext_42]
    exact hp
