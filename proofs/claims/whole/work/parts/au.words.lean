/-! ===== H2: the words of both ===== -/
def ks (j : Int) : Int := lget kS j.toNat
theorem ks_ok {j : Int} (hj : 0 ≤ j ∧ j < 21) : 1 ≤ ks j ∧ ks j + 1 < ks (j + 1) ∧ ks (j + 1) ≤ 108 ∧ ks (j + 1) - 1 - ks j ≤ 8 ∧ lget keys (ks (j + 1) - 1).toNat = 32 ∧ ∀ x, ks j ≤ x → x < ks (j + 1) - 1 → lget keys x.toNat ≠ 32 ∧ 97 ≤ lget keys x.toNat ∧ lget keys x.toNat ≤ 122 := by
  have e : (j + 1).toNat = j.toNat + 1 := by omega
  obtain ⟨-, -, -, -, -, t1, t2, t3, t4⟩ := w_tab ⟨j.toNat, by omega⟩
  obtain ⟨p1, p2⟩ := k_sp ⟨j.toNat, by omega⟩
  simp only at t1 t2 t3 t4 p1 p2
  unfold ks
  rw [e]
  refine ⟨t1, t2, t3, t4, ?_, fun x a b => ?_⟩
  · rw [show (lget kS (j.toNat + 1) - 1).toNat = (lget kS (j.toNat + 1)).toNat - 1 by omega]; exact p1
  · have := p2 ⟨(x - lget kS j.toNat).toNat, by omega⟩
    simp only at this
    have ex : (lget kS j.toNat).toNat + (x - lget kS j.toNat).toNat = x.toNat := by omega
    rw [ex] at this
    have h1 := this (by omega)
    have h2 := k_tab ⟨x.toNat, by omega⟩
    simp only at h2
    exact ⟨h1, by omega, by omega⟩
/-- the letters that stand here are the word j -/
def mtw (T : Int → Int) (q L j : Int) : Prop := ks (j + 1) - 1 - ks j = L ∧ ∀ i, 0 ≤ i → i < L → lget keys (ks j + i).toNat = T (q + i)
theorem nv_congr {f g : Int → Int} : ∀ (k : Nat), (∀ i, 0 ≤ i → i < (k : Int) → f i = g i) → nv f k = nv g k := by
  intro k
  induction k with
  | zero => intro _; rfl
  | succ k ih =>
    intro h
    show 256 * nv f k + f k = 256 * nv g k + g k
    rw [ih (fun i a b => h i a (by omega)), h k (by omega) (by omega)]
theorem mtw_i {T : Int → Int} {q L j : Int} (hj : 0 ≤ j ∧ j < 21) (hL : 1 ≤ L) (hT : ∀ i, 0 ≤ i → i < L → 97 ≤ T (q + i) ∧ T (q + i) ≤ 122) : mtw T q L j ↔ (L ≤ 8 ∧ lget words (lget ipm j.toNat).toNat = nmf T q L.toNat) := by
  obtain ⟨k1, k2, k3, k4, k5, k6⟩ := ks_ok hj
  obtain ⟨w1, -⟩ := w_tab ⟨j.toNat, by omega⟩
  simp only at w1
  have e : (j + 1).toNat = j.toNat + 1 := by omega
  have el : (lget kS (j.toNat + 1)).toNat - 1 - (lget kS j.toNat).toNat = (ks (j + 1) - 1 - ks j).toNat := by
    unfold ks at *
    rw [e] at *
    omega
  rw [el] at w1
  have ek : ∀ i, 0 ≤ i → lget keys ((lget kS j.toNat).toNat + i.toNat) = lget keys (ks j + i).toNat := fun i hi => by
    unfold ks at *
    rw [show (lget kS j.toNat + i).toNat = (lget kS j.toNat).toNat + i.toNat by omega]
  have hk : ∀ i, 0 ≤ i → i < ((ks (j + 1) - 1 - ks j).toNat : Int) → 97 ≤ lget keys ((lget kS j.toNat).toNat + i.toNat) ∧ lget keys ((lget kS j.toNat).toNat + i.toNat) ≤ 122 := fun i a b => by
    rw [ek i a]
    exact (k6 (ks j + i) (by omega) (by omega)).2
  constructor
  · rintro ⟨m1, m2⟩
    refine ⟨by omega, ?_⟩
    rw [w1, nmf_nv L.toNat (by omega) (fun i a b => hT i a (by omega)), m1]
    exact nv_congr _ (fun i a b => by rw [ek i a]; exact m2 i a (by omega))
  · rintro ⟨m1, m2⟩
    rw [w1, nmf_nv L.toNat (by omega) (fun i a b => hT i a (by omega))] at m2
    obtain ⟨a, b⟩ := nv_inj _ _ hk (fun i x y => hT i x (by omega)) m2
    refine ⟨by omega, fun i x y => ?_⟩
    have := b i x (by omega)
    rw [ek i x] at this
    exact this
theorem pm_y {nm j : Int} (hj : 0 ≤ j ∧ j < 21) (h : lget words (lget ipm j.toNat).toNat = nm) : pm (wn_ nm 21 0) = j := by
  obtain ⟨-, t2, t3, -⟩ := w_tab ⟨j.toNat, by omega⟩
  simp only at t2 t3
  rcases wn_f nm 21 0 (by omega) (by omega) with ⟨-, a⟩ | ⟨a, b⟩
  · exact absurd h (a _ t3.1 t3.2)
  · have := w_dis ⟨(wn_ nm 21 0).toNat, by omega⟩ ⟨(lget ipm j.toNat).toNat, by omega⟩ (by simp only; rw [b, h])
    have e : (wn_ nm 21 0).toNat = (lget ipm j.toNat).toNat := by
      have := congrArg Fin.val this
      exact this
    unfold pm
    rw [if_pos a.1, e, t2]; omega
theorem pm_n {nm : Int} (h : ∀ j : Int, 0 ≤ j → j < 21 → lget words (lget ipm j.toNat).toNat ≠ nm) : wn_ nm 21 0 = -1 := by
  rcases wn_f nm 21 0 (by omega) (by omega) with ⟨a, -⟩ | ⟨a, b⟩
  · exact a
  · exfalso
    obtain ⟨-, -, -, t4, t5, -⟩ := w_tab ⟨(wn_ nm 21 0).toNat, by omega⟩
    simp only at t4 t5
    refine h (lget pim (wn_ nm 21 0).toNat) t5.1 t5.2 ?_
    rw [t4, show (((wn_ nm 21 0).toNat : Nat) : Int).toNat = (wn_ nm 21 0).toNat by omega]
    exact b
theorem lp_iw25 (d : Nat) (u : Mem) (j k E z5 z6 : Int) (hE : E < 108) (hk : 0 ≤ k) (h1 : ∀ x, k ≤ x → x < E → lget keys x.toNat ≠ 32) (h2 : lget keys E.toNat = 32) (Q : Int → Mem → Prop) (hQ : EV d o_R_inWords 42 [] [137, 0, j, k, E, z5, z6] u Q) : ∀ (m : Nat) (e : Int), k ≤ e → e + m = E → EV d o_R_inWords 25 [] [137, 0, j, k, e, z5, z6] u Q := by
  intro m
  induction m with
  | zero =>
    intro e h0 he
    have ee : e = E := by omega
    subst ee
    rw [e_R_inWords_25]
    simp (disch := first | assumption | omega) only [rn, wk, al, wr_e, td_e, tm_e, mset_eq, mset_ne, if_pos, if_neg, Int.reduceAdd, Int.reduceSub, Int.reduceMul, Int.reduceNeg, Int.reduceLT, Int.reduceLE, Int.reduceEq, Int.cast_ofNat_Int, eq_self, and_true, true_and, ite_self, true_or, or_true, false_or, or_false, and_false, false_and, not_true_eq_false, not_false_eq_true, if_true, if_false, h2]
    exact hQ
  | succ m ih =>
    intro e h0 he
    have hx := ih (e + 1) (by omega) (by omega)
    have hn := h1 e h0 (by omega)
    rw [e_R_inWords_25]
    simp (disch := first | assumption | omega) only [rn, wk, al, wr_e, td_e, tm_e, mset_eq, mset_ne, if_pos, if_neg, Int.reduceAdd, Int.reduceSub, Int.reduceMul, Int.reduceNeg, Int.reduceLT, Int.reduceLE, Int.reduceEq, Int.cast_ofNat_Int, eq_self, and_true, true_and, ite_self, true_or, or_true, false_or, or_false, and_false, false_and, not_true_eq_false, not_false_eq_true, if_true, if_false, hn]
    exact hx
theorem lp_iw68 (d : Nat) (u : Mem) (T : Int → Int) (n q j k E : Int) (hT : TX T n) (h1 : ∀ i, 0 ≤ i ∧ i < n → u 144 i = T i) (h11 : u 137 11 = n) (h13 : u 137 13 = q) (hq : 0 ≤ q) (hqE : q + (E - k) ≤ n) (hc : ∀ i, 0 ≤ i → i < E - k → 97 ≤ T (q + i) ∧ T (q + i) ≤ 122) (hE : E < 108) (hk : 0 ≤ k) (Q : Int → Mem → Prop) (hy : (∀ i, 0 ≤ i → i < E - k → lget keys (k + i).toNat = T (q + i)) → EV (d + 1) o_R_inWords 115 [] [137, 0, j, k, E, 1, E] u Q) (hn : ¬ (∀ i, 0 ≤ i → i < E - k → lget keys (k + i).toNat = T (q + i)) → ∀ i, EV (d + 1) o_R_inWords 115 [] [137, 0, j, k, E, 0, i] u Q) : ∀ (m : Nat) (i : Int), 0 ≤ i → i + m = E - k → (∀ x, 0 ≤ x → x < i → lget keys (k + x).toNat = T (q + x)) → EV (d + 1) o_R_inWords 68 [] [137, 0, j, k, E, 1, k + i] u Q := by
  have hn9 := hT.1
  intro m
  induction m with
  | zero =>
    intro i h0 hi hp
    have ei : k + i = E := by omega
    have hx := hy (fun x a b => hp x a (by omega))
    rw [ei, e_R_inWords_68]
    simp (disch := first | assumption | omega) only [rn, wk, al, wr_e, td_e, tm_e, mset_eq, mset_ne, if_pos, if_neg, Int.reduceAdd, Int.reduceSub, Int.reduceMul, Int.reduceNeg, Int.reduceLT, Int.reduceLE, Int.reduceEq, Int.cast_ofNat_Int, eq_self, and_true, true_and, ite_self, true_or, or_true, false_or, or_false, and_false, false_and, not_true_eq_false, not_false_eq_true, if_true, if_false]
    exact hx
  | succ m ih =>
    intro i h0 hi hp
    have cb := hc i h0 (by omega)
    have qb := q_byteAt d u T n (q + i) hT h1 h11 (by omega)
    have eb : bta T n (q + i) = T (q + i) := by unfold bta; rw [if_pos (by omega)]; omega
    rw [eb] at qb
    have ea : q + (k + i) - k = q + i := by omega
    have ek : k + i + 1 = k + (i + 1) := by omega
    rw [e_R_inWords_68]
    by_cases c : lget keys (k + i).toNat = T (q + i)
    · have hx := ih (i + 1) (by omega) (by omega) (fun x a b => by
        by_cases ex : x = i
        · rw [ex]; exact c
        · exact hp x a (by omega))
      simp (disch := first | assumption | omega) only [rn, wk, al, wr_e, td_e, tm_e, mset_eq, mset_ne, if_pos, if_neg, Int.reduceAdd, Int.reduceSub, Int.reduceMul, Int.reduceNeg, Int.reduceLT, Int.reduceLE, Int.reduceEq, Int.cast_ofNat_Int, eq_self, and_true, true_and, ite_self, true_or, or_true, false_or, or_false, and_false, false_and, not_true_eq_false, not_false_eq_true, if_true, if_false, e_R_inWords_0, e_R_inWords_10, e_R_inWords_62, e_R_inWords_63, e_R_inWords_106, e_R_inWords_107, e_R_inWords_122, e_R_inWords_133, h13, ea, qb, c, ek]
      exact hx
    · have hx := hn (fun h => c (h i h0 (by omega))) (k + (i + 1))
      by_cases c2 : k + (i + 1) < E
      · simp (disch := first | assumption | omega) only [rn, wk, al, wr_e, td_e, tm_e, mset_eq, mset_ne, if_pos, if_neg, Int.reduceAdd, Int.reduceSub, Int.reduceMul, Int.reduceNeg, Int.reduceLT, Int.reduceLE, Int.reduceEq, Int.cast_ofNat_Int, eq_self, and_true, true_and, ite_self, true_or, or_true, false_or, or_false, and_false, false_and, not_true_eq_false, not_false_eq_true, if_true, if_false, e_R_inWords_0, e_R_inWords_10, e_R_inWords_62, e_R_inWords_63, e_R_inWords_106, e_R_inWords_107, e_R_inWords_122, e_R_inWords_133, h13, ea, qb, c, ek]
        rw [e_R_inWords_68]
        simp (disch := first | assumption | omega) only [rn, wk, al, wr_e, td_e, tm_e, mset_eq, mset_ne, if_pos, if_neg, Int.reduceAdd, Int.reduceSub, Int.reduceMul, Int.reduceNeg, Int.reduceLT, Int.reduceLE, Int.reduceEq, Int.cast_ofNat_Int, eq_self, and_true, true_and, ite_self, true_or, or_true, false_or, or_false, and_false, false_and, not_true_eq_false, not_false_eq_true, if_true, if_false]
        exact hx
      · simp (disch := first | assumption | omega) only [rn, wk, al, wr_e, td_e, tm_e, mset_eq, mset_ne, if_pos, if_neg, Int.reduceAdd, Int.reduceSub, Int.reduceMul, Int.reduceNeg, Int.reduceLT, Int.reduceLE, Int.reduceEq, Int.cast_ofNat_Int, eq_self, and_true, true_and, ite_self, true_or, or_true, false_or, or_false, and_false, false_and, not_true_eq_false, not_false_eq_true, if_true, if_false, e_R_inWords_0, e_R_inWords_10, e_R_inWords_62, e_R_inWords_63, e_R_inWords_106, e_R_inWords_107, e_R_inWords_122, e_R_inWords_133, h13, ea, qb, c, ek]
        rw [e_R_inWords_68]
        simp (disch := first | assumption | omega) only [rn, wk, al, wr_e, td_e, tm_e, mset_eq, mset_ne, if_pos, if_neg, Int.reduceAdd, Int.reduceSub, Int.reduceMul, Int.reduceNeg, Int.reduceLT, Int.reduceLE, Int.reduceEq, Int.cast_ofNat_Int, eq_self, and_true, true_and, ite_self, true_or, or_true, false_or, or_false, and_false, false_and, not_true_eq_false, not_false_eq_true, if_true, if_false]
        exact hx
theorem lp_iw14 (d : Nat) (u : Mem) (T : Int → Int) (n q L : Int) (hT : TX T n) (h1 : ∀ i, 0 ≤ i ∧ i < n → u 144 i = T i) (h11 : u 137 11 = n) (h13 : u 137 13 = q) (h14 : u 137 14 = q + L) (hq : 0 ≤ q) (hL : 1 ≤ L) (hqE : q + L ≤ n) (hc : ∀ i, 0 ≤ i → i < L → 97 ≤ T (q + i) ∧ T (q + i) ≤ 122) : ∀ (m : Nat) (j z4 z5 z6 : Int), 0 ≤ j → j + m = 21 → (∀ x, 0 ≤ x → x < j → ¬ mtw T q L x) → EV (d + 1) o_R_inWords 14 [] [137, 0, j, ks j, z4, z5, z6] u (fun r t => r = pm (if L ≤ 8 then wn_ (nmf T q L.toNat) 21 0 else -1) ∧ t = u) := by
  have hn9 := hT.1
  intro m
  induction m with
  | zero =>
    intro j z4 z5 z6 h0 hj hp
    have ej : j = 21 := by omega
    subst ej
    have ek : ks 21 = 108 := rfl
    have er : pm (if L ≤ 8 then wn_ (nmf T q L.toNat) 21 0 else -1) = -1 := by
      by_cases c8 : L ≤ 8
      · rw [if_pos c8, pm_n (fun j a b h => hp j a b ((mtw_i ⟨a, b⟩ hL hc).2 ⟨c8, h⟩))]; rfl
      · rw [if_neg c8]; rfl
    rw [er, ek, e_R_inWords_14]
    simp (disch := first | assumption | omega) only [rn, wk, al, wr_e, td_e, tm_e, mset_eq, mset_ne, if_pos, if_neg, Int.reduceAdd, Int.reduceSub, Int.reduceMul, Int.reduceNeg, Int.reduceLT, Int.reduceLE, Int.reduceEq, Int.cast_ofNat_Int, eq_self, and_true, true_and, ite_self, true_or, or_true, false_or, or_false, and_false, false_and, not_true_eq_false, not_false_eq_true, if_true, if_false, e_R_inWords_0, e_R_inWords_10, e_R_inWords_42, e_R_inWords_62, e_R_inWords_63, e_R_inWords_106, e_R_inWords_107, e_R_inWords_115, e_R_inWords_122, e_R_inWords_133]
  | succ m ih =>
    intro j z4 z5 z6 h0 hj hp
    obtain ⟨k1, k2, k3, k4, k5, k6⟩ := ks_ok (j := j) ⟨h0, by omega⟩
    obtain ⟨E, hE⟩ : ∃ E, E = ks (j + 1) - 1 := ⟨_, rfl⟩
    have eE : E + 1 = ks (j + 1) := by omega
    rw [← hE] at k5 k6
    obtain ⟨R, hR⟩ : ∃ R, R = pm (if L ≤ 8 then wn_ (nmf T q L.toNat) 21 0 else -1) := ⟨_, rfl⟩
    have next : ¬ mtw T q L j → ∀ i, EV (d + 1) o_R_inWords 115 [] [137, 0, j, ks j, E, 0, i] u (fun r t => r = R ∧ t = u) := fun hm i => by
      have hx := ih (j + 1) E 0 i (by omega) (by omega) (fun x a b => by
        by_cases e : x = j
        · rw [e]; exact hm
        · exact hp x a (by omega))
      rw [← hR] at hx
      rw [e_R_inWords_115]
      simp (disch := first | assumption | omega) only [rn, wk, al, wr_e, td_e, tm_e, mset_eq, mset_ne, if_pos, if_neg, Int.reduceAdd, Int.reduceSub, Int.reduceMul, Int.reduceNeg, Int.reduceLT, Int.reduceLE, Int.reduceEq, Int.cast_ofNat_Int, eq_self, and_true, true_and, ite_self, true_or, or_true, false_or, or_false, and_false, false_and, not_true_eq_false, not_false_eq_true, if_true, if_false, e_R_inWords_0, e_R_inWords_10, e_R_inWords_42, e_R_inWords_62, e_R_inWords_63, e_R_inWords_106, e_R_inWords_107, e_R_inWords_115, e_R_inWords_122, e_R_inWords_133, eE]
      exact hx
    have h42 : EV (d + 1) o_R_inWords 42 [] [137, 0, j, ks j, E, z5, z6] u (fun r t => r = R ∧ t = u) := by
      by_cases cl : E - ks j = L
      · have h68 := lp_iw68 d u T n q j (ks j) E hT h1 h11 h13 hq (by omega) (fun i a b => hc i a (by omega)) (by omega) (by omega) (fun r t => r = R ∧ t = u) (fun hy => by
          have hm : mtw T q L j := ⟨by omega, fun i a b => hy i a (by omega)⟩
          obtain ⟨c8, hw⟩ := (mtw_i ⟨h0, by omega⟩ hL hc).1 hm
          have er : R = j := by rw [hR, if_pos c8]; exact pm_y ⟨h0, by omega⟩ hw
          rw [er, e_R_inWords_115]
          simp (disch := first | assumption | omega) only [rn, wk, al, wr_e, td_e, tm_e, mset_eq, mset_ne, if_pos, if_neg, Int.reduceAdd, Int.reduceSub, Int.reduceMul, Int.reduceNeg, Int.reduceLT, Int.reduceLE, Int.reduceEq, Int.cast_ofNat_Int, eq_self, and_true, true_and, ite_self, true_or, or_true, false_or, or_false, and_false, false_and, not_true_eq_false, not_false_eq_true, if_true, if_false]) (fun hn => next (fun hm => hn (fun i a b => hm.2 i a (by omega)))) (E - ks j).toNat 0 (by omega) (by omega) (fun x a b => by omega)
        rw [Int.add_zero] at h68
        rw [e_R_inWords_42]
        simp (disch := first | assumption | omega) only [rn, wk, al, wr_e, td_e, tm_e, mset_eq, mset_ne, if_pos, if_neg, Int.reduceAdd, Int.reduceSub, Int.reduceMul, Int.reduceNeg, Int.reduceLT, Int.reduceLE, Int.reduceEq, Int.cast_ofNat_Int, eq_self, and_true, true_and, ite_self, true_or, or_true, false_or, or_false, and_false, false_and, not_true_eq_false, not_false_eq_true, if_true, if_false, e_R_inWords_0, e_R_inWords_10, e_R_inWords_42, e_R_inWords_62, e_R_inWords_63, e_R_inWords_106, e_R_inWords_107, e_R_inWords_115, e_R_inWords_122, e_R_inWords_133, h13, h14, cl, show q + L - q = L by omega]
        exact h68
      · have hx := next (fun hm => cl (by have := hm.1; omega)) (ks j)
        rw [e_R_inWords_42]
        simp (disch := first | assumption | omega) only [rn, wk, al, wr_e, td_e, tm_e, mset_eq, mset_ne, if_pos, if_neg, Int.reduceAdd, Int.reduceSub, Int.reduceMul, Int.reduceNeg, Int.reduceLT, Int.reduceLE, Int.reduceEq, Int.cast_ofNat_Int, eq_self, and_true, true_and, ite_self, true_or, or_true, false_or, or_false, and_false, false_and, not_true_eq_false, not_false_eq_true, if_true, if_false, e_R_inWords_0, e_R_inWords_10, e_R_inWords_42, e_R_inWords_62, e_R_inWords_63, e_R_inWords_106, e_R_inWords_107, e_R_inWords_122, e_R_inWords_133, h13, h14, show q + L - q = L by omega]
        rw [e_R_inWords_68]
        simp (disch := first | assumption | omega) only [rn, wk, al, wr_e, td_e, tm_e, mset_eq, mset_ne, if_pos, if_neg, Int.reduceAdd, Int.reduceSub, Int.reduceMul, Int.reduceNeg, Int.reduceLT, Int.reduceLE, Int.reduceEq, Int.cast_ofNat_Int, eq_self, and_true, true_and, ite_self, true_or, or_true, false_or, or_false, and_false, false_and, not_true_eq_false, not_false_eq_true, if_true, if_false]
        exact hx
    have h25 := lp_iw25 (d + 1) u j (ks j) E z5 z6 (by omega) (by omega) (fun x a b => (k6 x a b).1) k5 (fun r t => r = R ∧ t = u) h42 (E - ks j).toNat (ks j) (by omega) (by omega)
    rw [← hR, e_R_inWords_14]
    simp (disch := first | assumption | omega) only [rn, wk, al, wr_e, td_e, tm_e, mset_eq, mset_ne, if_pos, if_neg, Int.reduceAdd, Int.reduceSub, Int.reduceMul, Int.reduceNeg, Int.reduceLT, Int.reduceLE, Int.reduceEq, Int.cast_ofNat_Int, eq_self, and_true, true_and, ite_self, true_or, or_true, false_or, or_false, and_false, false_and, not_true_eq_false, not_false_eq_true, if_true, if_false]
    exact h25
theorem tk_L {T : Int → Int} {n p : Int} (hp : 0 ≤ p ∧ p ≤ n) (hk : tkk T n p = 1) : tkq T n p < n ∧ tke T n p = rux isL T n (tkq T n p) ∧ ∀ i, 0 ≤ i → i < tke T n p - tkq T n p → 97 ≤ T (tkq T n p + i) ∧ T (tkq T n p + i) ≤ 122 := by
  have hk' := hk
  unfold tkk at hk'
  by_cases c0 : n ≤ tkq T n p
  · rw [if_pos c0] at hk'; omega
  · rw [if_neg c0] at hk'
    by_cases cL : isL (T (tkq T n p)) = true
    · have e : tke T n p = rux isL T n (tkq T n p) := by unfold tke; rw [if_neg c0, if_pos cL]
      refine ⟨by omega, e, fun i a b => ?_⟩
      rw [e] at b
      exact isL_i.1 ((rux_ok (P := isL) (T := T) (n := n) (tkq T n p)).2.1 (tkq T n p + i) (by omega) (by omega))
    · rw [if_neg cL] at hk'
      split at hk'
      · split at hk' <;> omega
      · split at hk' <;> omega
theorem q_inWords (d : Nat) (u : Mem) (T : Int → Int) (n p : Int) (hT : TX T n) (h1 : ∀ i, 0 ≤ i ∧ i < n → u 144 i = T i) (hp : 0 ≤ p ∧ p ≤ n) (hk : TkR T n p u) : sem (d + 2) 235 [137, 0] u = some (if tkk T n p = 1 then pm (wnT T n p) else -1, u) := by
  obtain ⟨a1, a2, a3, a4, -⟩ := hk
  obtain ⟨b1, b2, b3⟩ := tke_b (T := T) hp
  apply CV_eq; apply c_R_inWords
  by_cases c : tkk T n p = 1
  · obtain ⟨c1, c2, c3⟩ := tk_L hp c
    have e12 : u 137 12 = 2 := by rw [a4, c]; rfl
    have hx := lp_iw14 d u T n (tkq T n p) (tke T n p - tkq T n p) hT h1 a1 a2 (by rw [a3]; omega) (by omega) (by have := b3 c1; omega) (by omega) c3 21 0 0 0 0 (by omega) (by omega) (fun x a b => by omega)
    have ek : ks 0 = 1 := rfl
    rw [ek] at hx
    rw [if_pos c]
    simp (disch := first | assumption | omega) only [rn, wk, al, wr_e, td_e, tm_e, mset_eq, mset_ne, if_pos, if_neg, Int.reduceAdd, Int.reduceSub, Int.reduceMul, Int.reduceNeg, Int.reduceLT, Int.reduceLE, Int.reduceEq, Int.cast_ofNat_Int, eq_self, and_true, true_and, ite_self, true_or, or_true, false_or, or_false, and_false, false_and, not_true_eq_false, not_false_eq_true, if_true, if_false, e_R_inWords_0, e_R_inWords_10, e_R_inWords_42, e_R_inWords_62, e_R_inWords_63, e_R_inWords_106, e_R_inWords_107, e_R_inWords_115, e_R_inWords_122, e_R_inWords_133, e12]
    exact hx
  · have e12 : u 137 12 ≠ 2 := by
      rw [a4]; unfold kr
      repeat' split
      all_goals omega
    rw [if_neg c]
    simp (disch := first | assumption | omega) only [rn, wk, al, wr_e, td_e, tm_e, mset_eq, mset_ne, if_pos, if_neg, Int.reduceAdd, Int.reduceSub, Int.reduceMul, Int.reduceNeg, Int.reduceLT, Int.reduceLE, Int.reduceEq, Int.cast_ofNat_Int, eq_self, and_true, true_and, ite_self, true_or, or_true, false_or, or_false, and_false, false_and, not_true_eq_false, not_false_eq_true, if_true, if_false, e_R_inWords_0, e_R_inWords_10, e_R_inWords_42, e_R_inWords_62, e_R_inWords_63, e_R_inWords_106, e_R_inWords_107, e_R_inWords_115, e_R_inWords_122, e_R_inWords_133, e12]
