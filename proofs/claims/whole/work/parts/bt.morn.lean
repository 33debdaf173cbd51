/-! ===== H2: mornings alike ===== -/
theorem MI_init {T : Int → Int} {n : Int} {s u : Mem} (hn : NmU s u) (hr : Rs_ T n 0 u) (h9 : u 138 3479 = 0) (h23 : u 137 23 = 0) (h22 : u 137 22 = 0) (s2 : s 69 2 = 0) (s1 : s 69 1 = 0) (se : s 10 2 = 0) : MI T n s u u 0 := by
  refine ⟨hn, hr, fun _ _ _ _ _ _ => rfl, by omega, ⟨by omega, by omega, by omega, fun j hj => by omega⟩, ?_, fun k hk => by omega⟩
  rw [s2, se]; exact SI_0 _ _ _
def um (T : Int → Int) (n : Int) (s : Mem) : Mem := fun c i => if c = 137 then ue T n 137 i else if c = 144 then T i else if c = 138 then (if i = 3479 then 0 else s 138 i) else s c i
theorem um_ok {T : Int → Int} {n : Int} (hT : TX T n) (s : Mem) : Rs_ T n 0 (um T n s) := Rs_w (fun i _ => rfl) (fun i => rfl) (ue_ok hT)
theorem nm_of {s : Mem} (hi : Inv s) : NmU s s := by
  have h := hi.2.2.2.2.1
  have hc := h.1.1
  have rc := h.2.1
  have rn := h.2.2.2.2.2.2.2.1
  exact ⟨⟨rc.1, rc.2.2.1, rc.2.2.2.1⟩, ⟨hc.2.1, hc.2.2.2.1, hc.2.2.2.2.1⟩, rn.1, rn.2.1, rn.2.2⟩
theorem HR_steps {s z : Mem} (hi : Inv s) (hc : ∀ c i, (37 ≤ c ∧ c ≤ 48) → z c i = s c i) (hb : ∀ i, 0 ≤ i ∧ i < 498 → i ≠ 7 → z 138 i = s 138 i) (hn : ∀ i, 0 ≤ i ∧ i < 16 → z 139 i = s 139 i) (hv : VT (win z 37)) (ht : RT (win z 37) (z 138)) : HR (win z 37) (z 138) (z 139) := by
  have e : ∀ c, 37 ≤ c ∧ c ≤ 48 → z c = s c := fun c h => funext (fun i => hc c i h)
  have c1 := hc 37 1 (by omega)
  have c2 := hc 37 2 (by omega)
  have c3 := hc 37 3 (by omega)
  have c4 := hc 37 4 (by omega)
  have c5 := hc 37 5 (by omega)
  have c6 := hc 37 6 (by omega)
  have e38 := e 38 (by omega)
  have e39 := e 39 (by omega)
  have e40 := e 40 (by omega)
  have e41 := e 41 (by omega)
  have e42 := e 42 (by omega)
  have e43 := e 43 (by omega)
  have e44 := e 44 (by omega)
  have e45 := e 45 (by omega)
  have e46 := e 46 (by omega)
  have e47 := e 47 (by omega)
  have e48 := e 48 (by omega)
  refine ⟨⟨keep_VC hi (fun i _ _ => hc _ _ (by omega)), keep_VW hi c1 c2 e39 e40 e41, keep_VS hi c1 c3 e42, keep_VL hi c1 c4 e43 e44 e45, keep_VU hi c3 c6 e47, keep_VN hi c1 c2 e39 e40 e41 e48, hv⟩, keep_RC hi (fun i _ _ => hc _ _ (by omega)) (fun i _ _ => hb _ (by omega) (by omega)), keep_RW hi c2 e39 e40 e41 (fun i _ _ => hb _ (by omega) (by omega)), keep_RS hi c3 e42 (fun i _ _ => hb _ (by omega) (by omega)), keep_RL hi c4 e43 e44 e45 (fun i _ _ => hb _ (by omega) (by omega)), keep_RK hi c4 c5 e46 e44 (fun i _ _ => hb _ (by omega) (by omega)), keep_RU hi c6 e47 (fun i _ _ => hb _ (by omega) (by omega)), keep_RN hi c1 c3 c4 e38 (fun i h1 h2 => hn _ ⟨h1, h2⟩), ht⟩
theorem tkS_49 (s : Mem) : (∀ k i, 13 ≤ k ∧ k ≤ 19 → 0 ≤ i ∧ i < 60 → tkS s 49 69 (37 + k) i = s (57 + k) i) ∧ (∀ i, 0 ≤ i ∧ i ≤ 2 → tkS s 49 69 49 i = s 69 i) ∧ ∀ c i, ¬ (49 ≤ c ∧ c ≤ 56) → tkS s 49 69 c i = s c i := by
  unfold tkS
  refine ⟨?_, ?_, ?_⟩
  · intro k i hk hi
    obtain rfl | rfl | rfl | rfl | rfl | rfl | rfl : k = 13 ∨ k = 14 ∨ k = 15 ∨ k = 16 ∨ k = 17 ∨ k = 18 ∨ k = 19 := by omega
    all_goals
      simp (disch := omega) only [mcopy_in, mcopy_out, mset_ne]
      congr 1 <;> omega
  · intro i hi
    obtain rfl | rfl | rfl : i = 0 ∨ i = 1 ∨ i = 2 := by omega
    all_goals simp (disch := omega) only [mcopy_out, mset_ne, mset_eq]
  · intro c i hc
    simp (disch := omega) only [mcopy_out, mset_ne]
theorem q_readIntoM (d D : Nat) {T : Int → Int} {n : Int} (hT : TX T n) (h3 : n ≤ 300) (s : Mem) (hs : Cs T n 0 s) (hN : ∃ u, NmU s u) : CV (d + 7) 72 [10, 69, 37] s fun r t => ∃ s2, (∀ c i, ¬ (c = 69 ∧ 0 ≤ i ∧ i ≤ 2) → ¬ (c = 10 ∧ i = 2) → s2 c i = s c i) ∧ (s2 69 2 = 0 ∧ s2 69 1 = 0 ∧ s2 10 2 = 0) ∧ LpM D T n s2 0 r t := by
  have hn := hT.1
  obtain ⟨u, hN⟩ := hN
  have qc := q_stepsClear (d + 5) 69 s
  obtain ⟨s2, hs2⟩ : ∃ s2, s2 = mset (mset (mset (mset s 69 0 0) 69 1 0) 69 2 0) 10 2 0 := ⟨_, rfl⟩
  have sf : ∀ c i, ¬ (c = 69 ∧ 0 ≤ i ∧ i ≤ 2) → ¬ (c = 10 ∧ i = 2) → s2 c i = s c i := fun c i h h2 => by rw [hs2]; simp (disch := omega) only [mset_ne]
  have z2 : s2 69 2 = 0 := by rw [hs2]; simp (disch := omega) only [mset_ne, mset_eq]
  have z1 : s2 69 1 = 0 := by rw [hs2]; simp (disch := omega) only [mset_ne, mset_eq]
  have ze : s2 10 2 = 0 := by rw [hs2, mset_eq rfl rfl]
  have hc : Cs T n 0 s2 := Cs_f (fun c i h => sf c i (by omega) (by omega)) hs
  have hN2 : NmU s2 (um T n u) := NmU_c (fun c i h => sf c i (by omega) (by omega)) (fun i hi => by
    obtain rfl | rfl | rfl := hi
    all_goals rfl) (fun _ => rfl) hN
  have hx := lp_rm d D hT h3 n.toNat 0 0 0 0 s2 (by omega) (by omega) (by omega) hc ⟨um T n u, um T n u, MI_init hN2 (um_ok hT u) rfl rfl rfl z2 z1 ze⟩
  have hy : EV (d + 6) o_MorningsReader_readInto 11 [] [10, 69, 37, 0, 0, 0] s2 fun r t => ∃ s2, (∀ c i, ¬ (c = 69 ∧ 0 ≤ i ∧ i ≤ 2) → ¬ (c = 10 ∧ i = 2) → s2 c i = s c i) ∧ (s2 69 2 = 0 ∧ s2 69 1 = 0 ∧ s2 10 2 = 0) ∧ LpM D T n s2 0 r t := EV_mono hx (fun r t ht => ⟨s2, sf, ⟨z2, z1, ze⟩, ht⟩)
  apply c_MorningsReader_readInto
  simp (disch := first | assumption | omega) only [rn, wk, al, wr_e, td_e, tm_e, mset_eq, mset_ne, if_pos, if_neg, Int.reduceAdd, Int.reduceSub, Int.reduceMul, Int.reduceNeg, Int.reduceLT, Int.reduceLE, Int.reduceEq, Int.cast_ofNat_Int, eq_self, and_true, true_and, ite_self, true_or, or_true, false_or, or_false, and_false, false_and, not_true_eq_false, not_false_eq_true, if_true, if_false, e_MorningsReader_readInto_0, e_MorningsReader_readInto_58, e_MorningsReader_readInto_62, e_MorningsReader_readInto_63, e_MorningsReader_readInto_80, e_MorningsReader_readInto_81, e_MorningsReader_readInto_96, e_MorningsReader_readInto_117, e_MorningsReader_readInto_118, e_MorningsReader_readInto_135, e_MorningsReader_readInto_143, qc, ← hs2]
  exact hy
/-- the reference's way to its loop -/
theorem r_mornGo (d : Nat) {T : Int → Int} {n : Int} (hT : TX T n) (h3 : n ≤ 300) (y : Mem) (h10 : n ≤ y 137 10) (h143 : ∀ i, 0 ≤ i ∧ i < n → y 143 i = T i) (G : Int → Mem → Prop) (K : ∀ u, (∀ c i, ¬ (c = 137 ∧ ((10 ≤ i ∧ i ≤ 15) ∨ (17 ≤ i ∧ i ≤ 19) ∨ i = 22 ∨ i = 23)) → c ≠ 144 → ¬ (c = 138 ∧ i = 3479) → u c i = y c i) → u 137 10 = 0 → u 138 3479 = 0 → u 137 22 = 0 → u 137 23 = 0 → Rs_ T n 0 u → EV (d + 29) o_R_mornings 38 [] [137, n, 1, 0] u G) : CV (d + 30) 262 [137, n] y G := by
  have hn := hT.1
  apply c_R_mornings
  simp (disch := first | assumption | omega) only [rn, wk, al, wr_e, td_e, tm_e, mset_eq, mset_ne, if_pos, if_neg, Int.reduceAdd, Int.reduceSub, Int.reduceMul, Int.reduceNeg, Int.reduceLT, Int.reduceLE, Int.reduceEq, Int.cast_ofNat_Int, eq_self, and_true, true_and, ite_self, true_or, or_true, false_or, or_false, and_false, false_and, not_true_eq_false, not_false_eq_true, if_true, if_false, e_R_mornings_0, e_R_mornings_17, e_R_mornings_57, e_R_mornings_77, e_R_mornings_132]
  refine EV_call (CV_mono (q_begins (d + 26) 300 hT y h10 h3 h143) ?_)
  rintro r w ⟨e, w1, w2, w3, w4⟩
  subst e
  obtain ⟨z, hz⟩ : ∃ z, z = mset (mset (mset w 138 3479 0) 137 22 0) 137 23 0 := ⟨_, rfl⟩
  have zf_ : ∀ c i, ¬ (c = 137 ∧ (i = 22 ∨ i = 23)) → ¬ (c = 138 ∧ i = 3479) → z c i = w c i := fun c i h h2 => by rw [hz]; simp (disch := omega) only [mset_ne]
  have z9 : z 138 3479 = 0 := by rw [hz]; simp (disch := omega) only [mset_ne, mset_eq]
  have z22 : z 137 22 = 0 := by rw [hz]; simp (disch := omega) only [mset_ne, mset_eq]
  have z23 : z 137 23 = 0 := by rw [hz, mset_eq rfl rfl]
  have hq := K z (fun c i g1 g2 g3 => by rw [zf_ c i (by omega) g3]; exact w4 c i (by omega) g2) (by rw [zf_ _ _ (by omega) (by omega)]; exact w2) z9 z22 z23 (Rs_w (fun i _ => zf_ _ _ (by omega) (by omega)) (fun i => zf_ _ _ (by omega) (by omega)) w1)
  simp (disch := first | assumption | omega) only [rn, wk, al, wr_e, td_e, tm_e, mset_eq, mset_ne, if_pos, if_neg, Int.reduceAdd, Int.reduceSub, Int.reduceMul, Int.reduceNeg, Int.reduceLT, Int.reduceLE, Int.reduceEq, Int.cast_ofNat_Int, eq_self, and_true, true_and, ite_self, true_or, or_true, false_or, or_false, and_false, false_and, not_true_eq_false, not_false_eq_true, if_true, if_false, e_R_mornings_0, e_R_mornings_17, e_R_mornings_57, e_R_mornings_77, e_R_mornings_132, ← hz]
  exact hq
theorem lp_m103 (d : Nat) (n g : Int) (u : Mem) (Q : Int → Mem → Prop) (hQ : ∀ w, (∀ c i, ¬ (c = 138 ∧ 500 ≤ i ∧ i < 860) → w c i = u c i) → (∀ i, 500 ≤ i ∧ i < 860 → w 138 i = u 138 (3472 + i)) → EV d o_R_mornings 132 [] [137, n, g, 860] w Q) : ∀ (m : Nat) (k : Int) (w : Mem), 500 ≤ k → k + m = 860 → (∀ c i, ¬ (c = 138 ∧ 500 ≤ i ∧ i < 860) → w c i = u c i) → (∀ i, 500 ≤ i ∧ i < k → w 138 i = u 138 (3472 + i)) → EV d o_R_mornings 103 [] [137, n, g, k] w Q := by
  intro m
  induction m with
  | zero =>
    intro k w h0 hk hf h1
    have ek : k = 860 := by omega
    subst ek
    have hx := hQ w hf h1
    rw [e_R_mornings_103]
    simp (disch := first | assumption | omega) only [rn, wk, al, wr_e, td_e, tm_e, mset_eq, mset_ne, if_pos, if_neg, Int.reduceAdd, Int.reduceSub, Int.reduceMul, Int.reduceNeg, Int.reduceLT, Int.reduceLE, Int.reduceEq, Int.cast_ofNat_Int, eq_self, and_true, true_and, ite_self, true_or, or_true, false_or, or_false, and_false, false_and, not_true_eq_false, not_false_eq_true, if_true, if_false]
    exact hx
  | succ m ih =>
    intro k w h0 hk hf h1
    have e := hf 138 (3472 + k) (by omega)
    have hx := ih (k + 1) (mset w 138 k (u 138 (3472 + k))) (by omega) (by omega) (fun c i hc => by rw [mset_ne (by omega)]; exact hf c i hc) (fun i hi => by
      by_cases ei : i = k
      · rw [ei, mset_eq rfl rfl]
      · rw [mset_ne (by omega)]; exact h1 i (by omega))
    rw [e_R_mornings_103]
    simp (disch := first | assumption | omega) only [rn, wk, al, wr_e, td_e, tm_e, mset_eq, mset_ne, if_pos, if_neg, Int.reduceAdd, Int.reduceSub, Int.reduceMul, Int.reduceNeg, Int.reduceLT, Int.reduceLE, Int.reduceEq, Int.cast_ofNat_Int, eq_self, and_true, true_and, ite_self, true_or, or_true, false_or, or_false, and_false, false_and, not_true_eq_false, not_false_eq_true, if_true, if_false, e]
    exact hx
