/-! ===== H2: live, both runs ===== -/
def LivP (h : Int) (u0 t w : Mem) : Prop := HRu h t w ∧ Cnt t w (w 153 0) ∧ Frl u0 w
def RunP (d' : Nat) (sd h : Int) (s : Mem) (r : Int) (t : Mem) : Prop := Fcl h s t ∧ (Vh h t ∧ ∀ j, 0 ≤ j → j ≤ 4 → 0 ≤ t 12 j ∧ t 12 j ≤ 300) ∧ ∀ u0 u, Rel h u0 s u r → GoB d' sd r u (fun _ w => LivP h u0 t w)
theorem run_out (d : Nat) {h : Int} (hh : isH h) (fs r p : Int) (s : Mem) (hp : 0 ≤ p ∧ p ≤ 100000) (hr : s (h + 12) 2 ≤ r) (Q : Int → Mem → Prop) (hQ : Q 0 s) : EV (d + 7) o_Life_run 46 [] [12, h, fs, h + 12, r, p] s Q := by
  rw [e_Life_run_46]
  by_cases c : 100000 ≤ p
  · simp (disch := first | assumption | omega) only [rn, wk, al, wr_e, td_e, tm_e, mset_eq, mset_ne, if_pos, if_neg, Int.reduceAdd, Int.reduceSub, Int.reduceMul, Int.reduceNeg, Int.reduceLT, Int.reduceLE, Int.reduceEq, Int.cast_ofNat_Int, eq_self, and_true, true_and, ite_self, true_or, or_true, false_or, or_false, and_false, false_and, not_true_eq_false, not_false_eq_true, if_true, if_false, e_Life_run_0, e_Life_run_86, e_Life_run_110, e_Life_run_130, e_Life_run_136]
    exact hQ
  · simp (disch := first | assumption | omega) only [rn, wk, al, wr_e, td_e, tm_e, mset_eq, mset_ne, if_pos, if_neg, Int.reduceAdd, Int.reduceSub, Int.reduceMul, Int.reduceNeg, Int.reduceLT, Int.reduceLE, Int.reduceEq, Int.cast_ofNat_Int, eq_self, and_true, true_and, ite_self, true_or, or_true, false_or, or_false, and_false, false_and, not_true_eq_false, not_false_eq_true, if_true, if_false, e_Life_run_0, e_Life_run_86, e_Life_run_110, e_Life_run_130, e_Life_run_136]
    exact hQ
theorem CI_4 {h : Int} {s : Mem} {r : Int} (hC : CI_ h s r) : ∀ j, 0 ≤ j → j ≤ 4 → 0 ≤ s 12 j ∧ s 12 j ≤ 300 := by
  obtain ⟨i1, i2, i3, i4, i5, -⟩ := hC
  intro j a b
  by_cases e : j = 0
  · rw [e]; exact i4
  · have := i5 j (by omega) b; omega
theorem RunP_st {d' : Nat} {sd h : Int} {s s1 : Mem} {r q : Int} {t : Mem} (hS : Stp_ d' sd h s r q s1) (hR : RunP d' sd h s1 q t) : RunP d' sd h s r t := by
  obtain ⟨a1, a2, a3, a4⟩ := hS
  obtain ⟨b1, b2, b3⟩ := hR
  exact ⟨fun c i hc => by rw [b1 c i hc, a1 c i hc], b2, fun u0 u hu => a4 u0 u _ hu (fun u1 h1 => b3 u0 u1 h1)⟩
theorem lp_run (d d' : Nat) (sd : Int) {h : Int} (hh : isH h) (fs : Int) : ∀ (n : Nat) (s : Mem) (r p : Int), CI_ h s r → pot h s r ≤ n → 0 ≤ p → p + n ≤ 99999 → EV (d + 7) o_Life_run 46 [] [12, h, fs, h + 12, r, p] s (fun _ t => RunP d' sd h s r t) := by
  have hu37 : 37 ≤ h ∧ h ≤ 117 := by unfold isH at hh; omega
  have a13 : h + 12 + 1 = h + 13 := by omega
  intro n
  induction n with
  | zero =>
    intro s r p hC hn hp hpn
    exfalso
    obtain ⟨i1, i2, i3, i4, i5, -⟩ := hC
    obtain ⟨v, hv⟩ := i1
    have v1 := (HRu_v hv i2).1
    unfold pot at hn
    split at hn <;> omega
  | succ n ih =>
    intro s r p hC hn hp hpn
    have hC' := hC
    obtain ⟨i1, i2, i3, i4, i5, i6, i7, i8⟩ := hC'
    obtain ⟨v, hv⟩ := id i1
    have v1 := (HRu_v hv i2).1
    by_cases cr : r = s (h + 12) 2
    · refine run_out d hh fs r p s (by omega) (by omega) _ ⟨fun _ _ _ => rfl, ⟨i1, CI_4 hC⟩, fun u0 u hR => ?_⟩
      obtain ⟨hu, hc, hl, hf⟩ := hR
      have x7 := (HRu_r hu i2).1
      exact rl_out d' sd r u _ i3.1 (by omega) ⟨hu, hc, hf⟩
    · have hr : r < s (h + 12) 2 := by omega
      rw [e_Life_run_46]
      by_cases cw : s (h + 13) r = 19
      · have w13 : s (h + 12 + 1) r = 19 := by rw [a13]; exact cw
        simp (disch := first | assumption | omega) only [rn, wk, al, wr_e, td_e, tm_e, mset_eq, mset_ne, if_pos, if_neg, Int.reduceAdd, Int.reduceSub, Int.reduceMul, Int.reduceNeg, Int.reduceLT, Int.reduceLE, Int.reduceEq, Int.cast_ofNat_Int, eq_self, and_true, true_and, ite_self, true_or, or_true, false_or, or_false, and_false, false_and, not_true_eq_false, not_false_eq_true, if_true, if_false, e_Life_run_0, e_Life_run_86, e_Life_run_110, e_Life_run_130, e_Life_run_136, ah hh, w13]
        refine EV_call (CV_mono (t_end (d + 6) d' sd hh s r hC hr cw) ?_)
        intro q s1 hS
        have hx := EV_mono (ih s1 q (p + 1) hS.2.1 (by have := hS.2.2.1; omega) (by omega) (by omega)) (fun _ t ht => RunP_st hS ht)
        simp (disch := first | assumption | omega) only [rn, wk, al, wr_e, td_e, tm_e, mset_eq, mset_ne, if_pos, if_neg, Int.reduceAdd, Int.reduceSub, Int.reduceMul, Int.reduceNeg, Int.reduceLT, Int.reduceLE, Int.reduceEq, Int.cast_ofNat_Int, eq_self, and_true, true_and, ite_self, true_or, or_true, false_or, or_false, and_false, false_and, not_true_eq_false, not_false_eq_true, if_true, if_false, e_Life_run_0, e_Life_run_86, e_Life_run_110, e_Life_run_130, e_Life_run_136]
        exact hx
      · have w13 : s (h + 12 + 1) r = s (h + 13) r := by rw [a13]
        by_cases c3 : s 12 0 = 300
        · obtain ⟨t, ht⟩ : ∃ t, t = mset s 12 5 1 := ⟨_, rfl⟩
          have tf : ∀ c i, ¬ (c = 12 ∧ i = 5) → t c i = s c i := fun c i hc => by rw [ht, mset_ne (by omega)]
          have sh : ∀ u, HRu h s u → HRu h t u := fun u hu => HRu_cl (fun c i hc => tf c i (by omega)) hu
          have e2 : t (h + 12) 2 = s (h + 12) 2 := tf _ _ (by omega)
          have hx := run_out d hh fs (s (h + 12) 2) (p + 1) t (by omega) (by omega) (fun _ t => RunP d' sd h s r t) (by
            refine ⟨fun c i hc => tf c i (by omega), ⟨⟨v, sh v hv⟩, fun j a b => by rw [tf _ _ (by omega)]; exact CI_4 hC j a b⟩, fun u0 u hR => ?_⟩
            obtain ⟨hu, hc, hl, hf⟩ := hR
            obtain ⟨c1, c2, c3', c4, c5, c6, c7⟩ := hc
            have x7 := (HRu_r hu i2).1
            have xw := Rw_ hu i2 (r := r) (by omega)
            have hpost : LivP h u0 t (mset u 153 4 1) := by
              refine ⟨sh _ (HRu_rf (fun i => mset_ne (by omega)) (fun i => mset_ne (by omega)) hu), ⟨?_, ?_, ?_, ?_, ?_, ?_, ?_⟩, fun c i a1 a2 a3 a4 a5 a6 => by rw [mset_ne (by omega)]; exact hf c i a1 a2 a3 a4 a5 a6⟩
              · rw [mset_ne (by omega), tf _ _ (by omega)]; exact c1
              · rw [mset_ne (by omega), tf _ _ (by omega)]; exact c2
              · rw [mset_ne (by omega), tf _ _ (by omega)]; exact c3'
              · rw [mset_ne (by omega), tf _ _ (by omega)]; exact c4
              · rw [mset_ne (by omega), tf _ _ (by omega)]; exact c5
              · rw [mset_eq rfl rfl, ht, mset_eq rfl rfl]
              · rw [mset_ne (by omega), tf _ _ (by omega)]; exact c7
            refine rl_in d' sd r u _ (by omega) (by omega) (by omega) (fun z3 => ?_)
            rw [e_R_lives_32]
            simp (disch := first | assumption | omega) only [rn, wk, al, wr_e, td_e, tm_e, mset_eq, mset_ne, if_pos, if_neg, Int.reduceAdd, Int.reduceSub, Int.reduceMul, Int.reduceNeg, Int.reduceLT, Int.reduceLE, Int.reduceEq, Int.cast_ofNat_Int, eq_self, and_true, true_and, ite_self, true_or, or_true, false_or, or_false, and_false, false_and, not_true_eq_false, not_false_eq_true, if_true, if_false, e_R_lives_0, e_R_lives_30, e_R_lives_61, e_R_lives_92, e_R_lives_111, e_R_lives_112, e_R_lives_141, e_R_lives_175, e_R_lives_178, e_R_lives_185, c1, c3]
            exact hpost)
          have e5 : mset s 12 5 1 (h + 12) 2 = s (h + 12) 2 := mset_ne (by omega)
          rw [ht] at hx
          simp (disch := first | assumption | omega) only [rn, wk, al, wr_e, td_e, tm_e, mset_eq, mset_ne, if_pos, if_neg, Int.reduceAdd, Int.reduceSub, Int.reduceMul, Int.reduceNeg, Int.reduceLT, Int.reduceLE, Int.reduceEq, Int.cast_ofNat_Int, eq_self, and_true, true_and, ite_self, true_or, or_true, false_or, or_false, and_false, false_and, not_true_eq_false, not_false_eq_true, if_true, if_false, e_Life_run_0, e_Life_run_86, e_Life_run_110, e_Life_run_130, e_Life_run_136, ah hh, w13, c3]
          exact hx
        · obtain ⟨s0, hs0⟩ : ∃ s0, s0 = mset s 12 0 (s 12 0 + 1) := ⟨_, rfl⟩
          obtain ⟨sf, s00, fc, sh⟩ := s0_f hh hs0
          have go : ∀ (hS : CV (d + 7) 198 [12, h, h + 12, r] s0 fun q s1 => Stp_ d' sd h s r q s1), EVQ (d + 7) o_Life_run (cal (sem (d + 7) 198 [12, h, h + 12, r] s0) fun v t => some (130, [], [12, h, fs, h + 12, v, p], t)) (fun _ t => RunP d' sd h s r t) := by
            intro hS
            refine EV_call (CV_mono hS ?_)
            intro q s1 hS
            have hx := EV_mono (ih s1 q (p + 1) hS.2.1 (by have := hS.2.2.1; omega) (by omega) (by omega)) (fun _ t ht => RunP_st hS ht)
            simp (disch := first | assumption | omega) only [rn, wk, al, wr_e, td_e, tm_e, mset_eq, mset_ne, if_pos, if_neg, Int.reduceAdd, Int.reduceSub, Int.reduceMul, Int.reduceNeg, Int.reduceLT, Int.reduceLE, Int.reduceEq, Int.cast_ofNat_Int, eq_self, and_true, true_and, ite_self, true_or, or_true, false_or, or_false, and_false, false_and, not_true_eq_false, not_false_eq_true, if_true, if_false, e_Life_run_0, e_Life_run_86, e_Life_run_110, e_Life_run_130, e_Life_run_136]
            exact hx
          have xw := Rw_ hv i2 (r := r) (by omega)
          have hcase : s (h + 13) r = 20 ∨ s (h + 13) r = 18 ∨ s (h + 13) r = 15 ∨ (10 ≤ s (h + 13) r ∧ s (h + 13) r ≤ 14) := by omega
          simp (disch := first | assumption | omega) only [rn, wk, al, wr_e, td_e, tm_e, mset_eq, mset_ne, if_pos, if_neg, Int.reduceAdd, Int.reduceSub, Int.reduceMul, Int.reduceNeg, Int.reduceLT, Int.reduceLE, Int.reduceEq, Int.cast_ofNat_Int, eq_self, and_true, true_and, ite_self, true_or, or_true, false_or, or_false, and_false, false_and, not_true_eq_false, not_false_eq_true, if_true, if_false, e_Life_run_0, e_Life_run_86, e_Life_run_110, e_Life_run_130, e_Life_run_136, ah hh, w13, ← hs0]
          rcases hcase with k | k | k | k
          · have w0 : s0 (h + 12 + 1) r = 20 := by rw [a13, sf _ _ (by omega)]; exact k
            have e2 : s0 (h + 12) 2 = s (h + 12) 2 := sf _ _ (by omega)
            have qs : sem (d + 7) 198 [12, h, h + 12, r] s0 = some (s (h + 12) 2, s0) := by
              apply CV_eq; apply c_Life_behindStep
              simp (disch := first | assumption | omega) only [rn, wk, al, wr_e, td_e, tm_e, mset_eq, mset_ne, if_pos, if_neg, Int.reduceAdd, Int.reduceSub, Int.reduceMul, Int.reduceNeg, Int.reduceLT, Int.reduceLE, Int.reduceEq, Int.cast_ofNat_Int, eq_self, and_true, true_and, ite_self, true_or, or_true, false_or, or_false, and_false, false_and, not_true_eq_false, not_false_eq_true, if_true, if_false, e_Life_behindStep_0, e_Life_behindStep_40, e_Life_behindStep_45, e_Life_behindStep_61, e_Life_behindStep_69, e_Life_behindStep_70, e_Life_behindStep_100, e_Life_behindStep_103, e_Life_behindStep_104, ah hh, w0, e2]
            have hx := run_out d hh fs (s (h + 12) 2) (p + 1) s0 (by omega) (by omega) (fun _ t => RunP d' sd h s r t) (by
              refine ⟨fc, ⟨⟨v, sh v hv⟩, fun j a b => by
                by_cases e : j = 0
                · rw [e, s00]; omega
                · rw [sf _ _ (by omega)]; exact CI_4 hC j a b⟩, fun u0 u hR => ?_⟩
              obtain ⟨hu, hc, hl, hf⟩ := hR
              obtain ⟨c1, c2, c3', c4, c5, c6, c7⟩ := hc
              have x7 := (HRu_r hu i2).1
              have xw := Rw_ hu i2 (r := r) (by omega)
              have xw2 : u 138 (500 + 6 * r) = 18 := by omega
              have hpost : LivP h u0 s0 (mset u 137 42 (s 12 0 + 1)) := by
                refine ⟨sh _ (HRu_rf (fun i => mset_ne (by omega)) (fun i => mset_ne (by omega)) hu), ⟨?_, ?_, ?_, ?_, ?_, ?_, ?_⟩, fun c i a1 a2 a3 a4 a5 a6 => by rw [mset_ne (by omega)]; exact hf c i a1 a2 a3 a4 a5 a6⟩
                · rw [mset_eq rfl rfl, s00]
                · rw [mset_ne (by omega), sf _ _ (by omega)]; exact c2
                · rw [mset_ne (by omega), sf _ _ (by omega)]; exact c3'
                · rw [mset_ne (by omega), sf _ _ (by omega)]; exact c4
                · rw [mset_ne (by omega), sf _ _ (by omega)]; exact c5
                · rw [mset_ne (by omega), sf _ _ (by omega)]; exact c6
                · rw [mset_ne (by omega), sf _ _ (by omega)]; exact c7
              refine rl_in d' sd r u _ (by omega) (by omega) (by omega) (fun z3 => ?_)
              rw [e_R_lives_32]
              simp (disch := first | assumption | omega) only [rn, wk, al, wr_e, td_e, tm_e, mset_eq, mset_ne, if_pos, if_neg, Int.reduceAdd, Int.reduceSub, Int.reduceMul, Int.reduceNeg, Int.reduceLT, Int.reduceLE, Int.reduceEq, Int.cast_ofNat_Int, eq_self, and_true, true_and, ite_self, true_or, or_true, false_or, or_false, and_false, false_and, not_true_eq_false, not_false_eq_true, if_true, if_false, e_R_lives_0, e_R_lives_30, e_R_lives_61, e_R_lives_92, e_R_lives_111, e_R_lives_112, e_R_lives_141, e_R_lives_175, e_R_lives_178, e_R_lives_185, c1, xw2]
              exact hpost)
            simp (disch := first | assumption | omega) only [rn, wk, al, wr_e, td_e, tm_e, mset_eq, mset_ne, if_pos, if_neg, Int.reduceAdd, Int.reduceSub, Int.reduceMul, Int.reduceNeg, Int.reduceLT, Int.reduceLE, Int.reduceEq, Int.cast_ofNat_Int, eq_self, and_true, true_and, ite_self, true_or, or_true, false_or, or_false, and_false, false_and, not_true_eq_false, not_false_eq_true, if_true, if_false, qs, e_Life_run_0, e_Life_run_86, e_Life_run_110, e_Life_run_130, e_Life_run_136]
            exact hx
          · exact go (t_loop (d + 1) d' sd hh s s0 hs0 r hC hr k (by omega))
          · exact go (t_when (d + 1) d' sd hh s s0 hs0 r hC hr k (by omega))
          · exact go (t_act d d' sd hh s s0 hs0 r hC hr k (by omega))
theorem lp_lv12 (d : Nat) (sd : Int) (F : Int → Mem → Prop) (u : Mem) (K : ∀ w z, (∀ c i, c ≠ 153 → w c i = u c i) → (∀ j, 0 ≤ j ∧ j < 5 → w 153 j = 0) → EV d o_R_lives 32 [] [137, sd, 0, z] w F) : ∀ (n : Nat) (k z : Int) (w : Mem), 0 ≤ k → k + n = 5 → (∀ c i, c ≠ 153 → w c i = u c i) → (∀ j, 0 ≤ j ∧ j < k → w 153 j = 0) → EV d o_R_lives 12 [] [137, sd, k, z] w F := by
  intro n
  induction n with
  | zero =>
    intro k z w h0 hk hf h1
    have ek : k = 5 := by omega
    subst ek
    have hx := K w z hf h1
    rw [e_R_lives_12]
    simp (disch := first | assumption | omega) only [rn, wk, al, wr_e, td_e, tm_e, mset_eq, mset_ne, if_pos, if_neg, Int.reduceAdd, Int.reduceSub, Int.reduceMul, Int.reduceNeg, Int.reduceLT, Int.reduceLE, Int.reduceEq, Int.cast_ofNat_Int, eq_self, and_true, true_and, ite_self, true_or, or_true, false_or, or_false, and_false, false_and, not_true_eq_false, not_false_eq_true, if_true, if_false, e_R_lives_0, e_R_lives_30, e_R_lives_61, e_R_lives_92, e_R_lives_111, e_R_lives_112, e_R_lives_141, e_R_lives_175, e_R_lives_178, e_R_lives_185]
    exact hx
  | succ n ih =>
    intro k z w h0 hk hf h1
    have hx := ih (k + 1) z (mset w 153 k 0) (by omega) (by omega) (fun c i hc => by rw [mset_ne (by omega)]; exact hf c i hc) (fun j hj => by
      by_cases e : j = k
      · rw [e, mset_eq rfl rfl]
      · rw [mset_ne (by omega)]; exact h1 j (by omega))
    rw [e_R_lives_12]
    simp (disch := first | assumption | omega) only [rn, wk, al, wr_e, td_e, tm_e, mset_eq, mset_ne, if_pos, if_neg, Int.reduceAdd, Int.reduceSub, Int.reduceMul, Int.reduceNeg, Int.reduceLT, Int.reduceLE, Int.reduceEq, Int.cast_ofNat_Int, eq_self, and_true, true_and, ite_self, true_or, or_true, false_or, or_false, and_false, false_and, not_true_eq_false, not_false_eq_true, if_true, if_false]
    exact hx
theorem q_lives2 (d d' : Nat) {h : Int} (hh : isH h) (s : Mem) (sd : Int) (hV : Vh h s) (h1 : s (h + 12) 0 = 1) (hsd : 0 ≤ sd ∧ sd < 65536) : CV (d + 8) 196 [12, h, sd] s fun _ t => Fcl h s t ∧ (Vh h t ∧ ∀ j, 0 ≤ j → j ≤ 4 → 0 ≤ t 12 j ∧ t 12 j ≤ 300) ∧ ∀ u, HRu h s u → CV (d' + 11) 357 [137, sd] u fun _ w => LivP h u t w := by
  have hu37 : 37 ≤ h ∧ h ≤ 117 := by unfold isH at hh; omega
  obtain ⟨s1, hs1⟩ : ∃ s1, s1 = mset (mset (mset (mset (mset (mset (mset s 12 0 0) 12 1 0) 12 2 0) 12 3 0) 12 4 0) 12 5 0) 12 6 sd := ⟨_, rfl⟩
  have sf : ∀ c i, c ≠ 12 → s1 c i = s c i := fun c i hc => by rw [hs1]; simp (disch := omega) only [mset_ne]
  have s10 : ∀ j, 0 ≤ j ∧ j ≤ 5 → s1 12 j = 0 := fun j hj => by
    obtain rfl | rfl | rfl | rfl | rfl | rfl : j = 0 ∨ j = 1 ∨ j = 2 ∨ j = 3 ∨ j = 4 ∨ j = 5 := by omega
    all_goals (rw [hs1]; simp (disch := omega) only [mset_ne, mset_eq])
  have s16 : s1 12 6 = sd := by rw [hs1, mset_eq rfl rfl]
  have sh : ∀ u, HRu h s u → HRu h s1 u := fun u hu => HRu_cl (fun c i hc => sf c i (by omega)) hu
  obtain ⟨v, hv⟩ := hV
  obtain ⟨v1, v2, -⟩ := HRu_v hv h1
  have e2 : s1 (h + 12) 2 = s (h + 12) 2 := sf _ _ (by omega)
  have e1 : s1 (h + 12) 0 = 1 := by rw [sf _ _ (by omega)]; exact h1
  have c4 : ∀ j, 0 ≤ j → j ≤ 4 → 0 ≤ s1 12 j ∧ s1 12 j ≤ 300 := fun j a b => by rw [s10 j (by omega)]; omega
  have hrun : EV (d + 7) o_Life_run 46 [] [12, h, sd, h + 12, 0, 0] s1 (fun _ t => RunP d' sd h s1 0 t) := by
    by_cases c : s (h + 12) 2 = 0
    · refine run_out d hh sd 0 0 s1 (by omega) (by omega) _ ⟨fun _ _ _ => rfl, ⟨⟨v, sh v hv⟩, c4⟩, fun u0 u hR => ?_⟩
      obtain ⟨hu, hc, hl, hf⟩ := hR
      have x7 := (HRu_r hu e1).1
      exact rl_out d' sd 0 u _ (by omega) (by omega) ⟨hu, hc, hf⟩
    · have hC : CI_ h s1 0 := by
        refine ⟨⟨v, sh v hv⟩, e1, by rw [e2]; omega, by rw [s10 0 (by omega)]; omega, fun j a b => by rw [s10 j (by omega), s10 0 (by omega)]; omega, by rw [s16]; exact hsd, fun n hn => by have := hn.1; omega, ?_⟩
        rintro ⟨k1, k2, k3⟩
        rw [sf _ _ (by omega)] at k1
        have := (VR_19 (v2 0 (by omega)) k1).1
        omega
      refine lp_run d d' sd hh sd 39255 s1 0 0 hC ?_ (by omega) (by omega)
      unfold pot
      rw [s10 0 (by omega)]
      split <;> omega
  apply c_Life_run
  simp (disch := first | assumption | omega) only [rn, wk, al, wr_e, td_e, tm_e, mset_eq, mset_ne, if_pos, if_neg, Int.reduceAdd, Int.reduceSub, Int.reduceMul, Int.reduceNeg, Int.reduceLT, Int.reduceLE, Int.reduceEq, Int.cast_ofNat_Int, eq_self, and_true, true_and, ite_self, true_or, or_true, false_or, or_false, and_false, false_and, not_true_eq_false, not_false_eq_true, if_true, if_false, e_Life_run_0, e_Life_run_86, e_Life_run_110, e_Life_run_130, e_Life_run_136, ← hs1]
  refine EV_mono hrun ?_
  rintro r t ⟨t1, t2, t3⟩
  refine ⟨fun c i hc => by rw [t1 c i hc]; exact sf c i (by omega), t2, fun u hu => ?_⟩
  have x7 : u 138 7 = s (h + 12) 2 := (HRu_r hu h1).1
  have hx := lp_lv12 (d' + 10) sd (fun _ w => LivP h u t w) (mset (mset u 137 41 sd) 137 42 0) (fun w z hf hz => by
    have wf : ∀ c i, c ≠ 153 → ¬ (c = 137 ∧ (i = 41 ∨ i = 42)) → w c i = u c i := fun c i a b => by rw [hf c i a, mset_ne (by omega), mset_ne (by omega)]
    have hrel : Rel h u s1 w 0 := by
      refine ⟨sh w (HRu_rf (fun i => wf _ _ (by omega) (by omega)) (fun i => wf _ _ (by omega) (by omega)) hu), ⟨?_, ?_, ?_, ?_, ?_, ?_, ?_⟩, fun n hn => by have := hn.1; omega, fun c i a1 a2 a3 a4 a5 a6 => wf c i (by omega) (by omega)⟩
      · rw [hf _ _ (by omega), mset_eq rfl rfl, s10 0 (by omega)]
      · rw [hz 0 (by omega), s10 1 (by omega)]
      · rw [hz 1 (by omega), s10 2 (by omega)]
      · rw [hz 2 (by omega), s10 3 (by omega)]
      · rw [hz 3 (by omega), s10 4 (by omega)]
      · rw [hz 4 (by omega), s10 5 (by omega)]
      · rw [hf _ _ (by omega), mset_ne (by omega), mset_eq rfl rfl, s16]
    have hg := t3 u w hrel 0 0 0
    rw [e_R_behindEnds_2] at hg
    have w7 : w 138 7 = s (h + 12) 2 := by rw [wf _ _ (by omega) (by omega)]; exact x7
    by_cases c : s (h + 12) 2 = 0
    · simp (disch := first | assumption | omega) only [rn, wk, al, wr_e, td_e, tm_e, mset_eq, mset_ne, if_pos, if_neg, Int.reduceAdd, Int.reduceSub, Int.reduceMul, Int.reduceNeg, Int.reduceLT, Int.reduceLE, Int.reduceEq, Int.cast_ofNat_Int, eq_self, and_true, true_and, ite_self, true_or, or_true, false_or, or_false, and_false, false_and, not_true_eq_false, not_false_eq_true, if_true, if_false, e_R_behindEnds_0, e_R_behindEnds_78, e_R_behindEnds_79, e_R_behindEnds_97, e_R_behindEnds_98, e_R_behindEnds_111, e_R_behindEnds_114, e_R_behindEnds_118, w7, c] at hg
      exact hg z
    · have w0 : w 138 500 ≠ 17 := by
        have xw := Rw_ hu h1 (r := 0) (by omega)
        have : w 138 500 = u 138 (500 + 6 * 0) := wf _ _ (by omega) (by omega)
        rw [this]
        intro e
        have k1 : s (h + 13) 0 = 19 := by omega
        have := (VR_19 (v2 0 (by omega)) k1).1
        omega
      simp (disch := first | assumption | omega) only [rn, wk, al, wr_e, td_e, tm_e, mset_eq, mset_ne, if_pos, if_neg, Int.reduceAdd, Int.reduceSub, Int.reduceMul, Int.reduceNeg, Int.reduceLT, Int.reduceLE, Int.reduceEq, Int.cast_ofNat_Int, eq_self, and_true, true_and, ite_self, true_or, or_true, false_or, or_false, and_false, false_and, not_true_eq_false, not_false_eq_true, if_true, if_false, e_R_behindEnds_0, e_R_behindEnds_78, e_R_behindEnds_79, e_R_behindEnds_97, e_R_behindEnds_98, e_R_behindEnds_111, e_R_behindEnds_114, e_R_behindEnds_118, w7, w0] at hg
      exact hg z) 5 0 0 (mset (mset u 137 41 sd) 137 42 0) (by omega) (by omega) (fun _ _ _ => rfl) (fun j hj => by omega)
  apply c_R_lives
  simp (disch := first | assumption | omega) only [rn, wk, al, wr_e, td_e, tm_e, mset_eq, mset_ne, if_pos, if_neg, Int.reduceAdd, Int.reduceSub, Int.reduceMul, Int.reduceNeg, Int.reduceLT, Int.reduceLE, Int.reduceEq, Int.cast_ofNat_Int, eq_self, and_true, true_and, ite_self, true_or, or_true, false_or, or_false, and_false, false_and, not_true_eq_false, not_false_eq_true, if_true, if_false, e_R_lives_0, e_R_lives_30, e_R_lives_61, e_R_lives_92, e_R_lives_111, e_R_lives_112, e_R_lives_141, e_R_lives_175, e_R_lives_178, e_R_lives_185]
  exact hx
