/-! ===== H2: live, a step's row of both runs ===== -/
theorem q_does1 (d : Nat) (r : Int) (u : Mem) (hr : 0 ≤ r ∧ r < 60) (hw : 16 ≤ u 138 (500 + 6 * r)) : sem (d + 1) 358 [137, 500 + 6 * r] u = some (1, u) := by
  have z1 : 500 + 6 * r + 1 = 501 + 6 * r := by omega
  have z2 : 500 + 6 * r + 2 = 502 + 6 * r := by omega
  apply CV_eq; apply c_R_does
  simp (disch := first | assumption | omega) only [rn, wk, al, wr_e, td_e, tm_e, mset_eq, mset_ne, if_pos, if_neg, Int.reduceAdd, Int.reduceSub, Int.reduceMul, Int.reduceNeg, Int.reduceLT, Int.reduceLE, Int.reduceEq, Int.cast_ofNat_Int, eq_self, and_true, true_and, ite_self, true_or, or_true, false_or, or_false, and_false, false_and, not_true_eq_false, not_false_eq_true, if_true, if_false, e_R_does_0, e_R_does_60, e_R_does_83, e_R_does_84, e_R_does_88, e_R_does_106, e_R_does_121, e_R_does_126, e_R_does_131, z1, z2]
/-- the class's state behind `done++` -/
theorem s0_f {h : Int} (hh : isH h) {s s0 : Mem} (hs0 : s0 = mset s 12 0 (s 12 0 + 1)) : (∀ c i, ¬ (c = 12 ∧ i = 0) → s0 c i = s c i) ∧ s0 12 0 = s 12 0 + 1 ∧ Fcl h s s0 ∧ ∀ u, HRu h s u → HRu h s0 u := by
  have hu37 : 37 ≤ h ∧ h ≤ 117 := by unfold isH at hh; omega
  have sf : ∀ c i, ¬ (c = 12 ∧ i = 0) → s0 c i = s c i := fun c i hc => by rw [hs0, mset_ne (by omega)]
  exact ⟨sf, by rw [hs0, mset_eq rfl rfl], fun c i hc => sf c i (by omega), fun u hu => HRu_cl (fun c i hc => sf c i (by omega)) hu⟩
theorem t_when (d d' : Nat) (sd : Int) {h : Int} (hh : isH h) (s s0 : Mem) (hs0 : s0 = mset s 12 0 (s 12 0 + 1)) (r : Int) (hC : CI_ h s r) (hr : r < s (h + 12) 2) (hw : s (h + 13) r = 15) (h300 : s 12 0 < 300) : CV (d + 6) 198 [12, h, h + 12, r] s0 fun q s1 => Stp_ d' sd h s r q s1 := by
  have hu37 : 37 ≤ h ∧ h ≤ 117 := by unfold isH at hh; omega
  obtain ⟨i1, i2, i3, i4, i5, i6, i7, i8⟩ := hC
  obtain ⟨sf, s00, fc, sh⟩ := s0_f hh hs0
  obtain ⟨v, hv⟩ := id i1
  obtain ⟨v1, v2, v3⟩ := HRu_v hv i2
  have a13 : h + 12 + 1 = h + 13 := by omega
  have a19 : h + 12 + 7 = h + 19 := by omega
  obtain ⟨g1, g2, g3, g4⟩ := VR_15 (v2 r ⟨i3.1, hr⟩) hw
  obtain ⟨L, hL⟩ : ∃ L, L = s (h + 19) r := ⟨_, rfl⟩
  rw [← hL] at g1 g2 g3 g4
  have w13 : s0 (h + 12 + 1) r = 15 := by rw [a13, sf _ _ (by omega)]; exact hw
  have w19 : s0 (h + 12 + 7) r = L := by rw [a19, sf _ _ (by omega)]; exact hL.symm
  have e12 : s0 (h + 12) 2 = s (h + 12) 2 := sf _ _ (by omega)
  obtain ⟨b, hb, qh, rh⟩ := q_holds d hh s0 ⟨v, sh v hv⟩ (by rw [sf _ _ (by omega)]; exact i2) r (by rw [e12]; exact ⟨i3.1, hr⟩) w13
  have whenO : ∀ n, Opn h s (L + 1) n → Opn h s r n := by
    rintro n ⟨o1, o2, o3⟩
    have e1 : n ≠ r := fun e => by rw [e] at o2; omega
    have e2 : n ≠ L := fun e => by rw [e] at o2; omega
    by_cases c : n < r
    · exact ⟨by omega, o2, by omega⟩
    · exfalso
      have := v3 r n (by omega) (by omega) (show n < s (h + 12) 2 by omega) (Or.inl hw) (show n < s (h + 19) r by omega) (Or.inr o2)
      have this' : s (h + 19) n < s (h + 19) r := this
      omega
  have nextO : ∀ n, Opn h s (r + 1) n → Opn h s r n := by
    rintro n ⟨o1, o2, o3⟩
    have hn : n ≠ r := fun e => by rw [e] at o2; omega
    exact ⟨by omega, o2, by omega⟩
  have key : ∀ q, (q = r + 1 ∧ b = 1) ∨ (q = L + 1 ∧ b = 0) → Stp_ d' sd h s r q s0 := by
    intro q hq
    have qO : ∀ n, Opn h s q n → Opn h s r n := fun n hn => by
      rcases hq with ⟨e, -⟩ | ⟨e, -⟩
      · rw [e] at hn; exact nextO n hn
      · rw [e] at hn; exact whenO n hn
    refine ⟨fc, ⟨⟨v, sh v hv⟩, by rw [sf _ _ (by omega)]; exact i2, by rw [e12]; omega, by rw [s00]; omega, fun j a c => by rw [sf _ _ (by omega), s00]; have := i5 j a c; omega, by rw [sf _ _ (by omega)]; exact i6, fun n hn => by rw [sf _ _ (by omega)]; exact i7 n (qO n ((Opn_congr fc hh).1 hn)), ?_⟩, ?_, ?_⟩
    · rw [NE_congr fc hh]
      rintro ⟨-, -, k⟩
      rcases hq with ⟨e, -⟩ | ⟨e, -⟩
      · rw [show q - 1 = r by omega] at k; omega
      · rw [show q - 1 = L by omega] at k; omega
    · unfold pot
      rw [s00]
      split <;> split <;> omega
    · intro u0 u F hR K
      obtain ⟨hu, hc, hl, hf⟩ := hR
      obtain ⟨x7, -⟩ := HRu_r hu i2
      obtain ⟨c1, c2, c3, c4, c5, c6, c7⟩ := hc
      have m0 := i5 1 (by omega) (by omega)
      obtain ⟨u', hu'⟩ : ∃ u', u' = mset u 137 42 (s 12 0 + 1) := ⟨_, rfl⟩
      have uf : ∀ c i, ¬ (c = 137 ∧ i = 42) → u' c i = u c i := fun c i hc => by rw [hu', mset_ne (by omega)]
      have u42 : u' 137 42 = s 12 0 + 1 := by rw [hu', mset_eq rfl rfl]
      have xw := Rw_ hu i2 (r := r) (by omega)
      have xw' : 1500 ≤ u' 138 (500 + 6 * r) ∧ u' 138 (500 + 6 * r) ≤ 1520 := by rw [uf _ _ (by omega)]; omega
      refine rl_pre d' sd r u F (s 12 0) (by omega) (by omega) (by omega) (by omega) c1 (by omega) ?_
      rw [← hu', e_R_lives_92]
      have qd := q_does1 (d' + 9) r u' (by omega) (by omega)
      obtain ⟨y, hy⟩ : ∃ y, y = mset u' 153 0 (u' 153 0) := ⟨_, rfl⟩
      have hyu : y = u' := by rw [hy]; exact mset_id rfl
      have b0 : 0 ≤ u' 153 0 ∧ u' 153 0 ≤ 300 := by rw [uf _ _ (by omega)]; omega
      have hru : HRu h s0 u' := sh u' (HRu_rf (fun i => uf _ _ (by omega)) (fun i => uf _ _ (by omega)) hu)
      obtain ⟨-, y4, hcv⟩ := rh (d' + 2) u' hru
      have y4' : u' 138 (504 + 6 * r) = L := by rw [y4, sf _ _ (by omega)]; exact hL.symm
      simp (disch := first | assumption | omega) only [rn, wk, al, wr_e, td_e, tm_e, mset_eq, mset_ne, if_pos, if_neg, Int.reduceAdd, Int.reduceSub, Int.reduceMul, Int.reduceNeg, Int.reduceLT, Int.reduceLE, Int.reduceEq, Int.cast_ofNat_Int, eq_self, and_true, true_and, ite_self, true_or, or_true, false_or, or_false, and_false, false_and, not_true_eq_false, not_false_eq_true, if_true, if_false, e_R_lives_0, e_R_lives_30, e_R_lives_61, e_R_lives_92, e_R_lives_111, e_R_lives_112, e_R_lives_141, e_R_lives_175, e_R_lives_178, e_R_lives_185, qd, Int.add_zero, ← hy, hyu]
      refine EV_call (CV_mono hcv ?_)
      rintro r' w ⟨⟨w1, w2⟩, w3⟩
      subst w1
      have G : ∀ c i, c = 153 ∨ c = 152 ∨ (c = 137 ∧ i > 40) → w c i = u' c i := fun c i hc => w2 c i (by omega) (by omega) (by omega) (by omega)
      have w138 : w 138 (504 + 6 * r) = L := by rw [w2 _ _ (by omega) (by omega) (by omega) (by omega)]; exact y4'
      have hrel : Rel h u0 s0 w q := by
        refine ⟨w3, ⟨?_, ?_, ?_, ?_, ?_, ?_, ?_⟩, fun n hn => ?_, fun c i a1 a2 a3 a4 a5 a6 => by rw [w2 c i (by omega) (by omega) (by omega) (by omega), uf c i (by omega)]; exact hf c i a1 a2 a3 a4 a5 a6⟩
        · rw [G _ _ (by omega), u42, s00]
        · rw [G _ _ (by omega), uf _ _ (by omega), sf _ _ (by omega)]; exact c2
        · rw [G _ _ (by omega), uf _ _ (by omega), sf _ _ (by omega)]; exact c3
        · rw [G _ _ (by omega), uf _ _ (by omega), sf _ _ (by omega)]; exact c4
        · rw [G _ _ (by omega), uf _ _ (by omega), sf _ _ (by omega)]; exact c5
        · rw [G _ _ (by omega), uf _ _ (by omega), sf _ _ (by omega)]; exact c6
        · rw [G _ _ (by omega), uf _ _ (by omega), sf _ _ (by omega)]; exact c7
        · rw [G _ _ (by omega), uf _ _ (by omega), sf _ _ (by omega)]; exact hl n (qO n ((Opn_congr fc hh).1 hn))
      have hk := be_call d' sd q w F (K w hrel)
      have z4 : 500 + 6 * r + 4 = 504 + 6 * r := by omega
      rcases hq with ⟨e, eb⟩ | ⟨e, eb⟩
      · rw [e] at hk
        simp (disch := first | assumption | omega) only [rn, wk, al, wr_e, td_e, tm_e, mset_eq, mset_ne, if_pos, if_neg, Int.reduceAdd, Int.reduceSub, Int.reduceMul, Int.reduceNeg, Int.reduceLT, Int.reduceLE, Int.reduceEq, Int.cast_ofNat_Int, eq_self, and_true, true_and, ite_self, true_or, or_true, false_or, or_false, and_false, false_and, not_true_eq_false, not_false_eq_true, if_true, if_false, e_R_lives_0, e_R_lives_30, e_R_lives_61, e_R_lives_92, e_R_lives_111, e_R_lives_112, e_R_lives_141, e_R_lives_175, e_R_lives_178, e_R_lives_185, eb]
        refine EV_call (CV_mono hk ?_)
        intro r2 y hy2
        have hz := hy2 (500 + 6 * r)
        simp (disch := first | assumption | omega) only [rn, wk, al, wr_e, td_e, tm_e, mset_eq, mset_ne, if_pos, if_neg, Int.reduceAdd, Int.reduceSub, Int.reduceMul, Int.reduceNeg, Int.reduceLT, Int.reduceLE, Int.reduceEq, Int.cast_ofNat_Int, eq_self, and_true, true_and, ite_self, true_or, or_true, false_or, or_false, and_false, false_and, not_true_eq_false, not_false_eq_true, if_true, if_false]
        exact hz
      · rw [e] at hk
        simp (disch := first | assumption | omega) only [rn, wk, al, wr_e, td_e, tm_e, mset_eq, mset_ne, if_pos, if_neg, Int.reduceAdd, Int.reduceSub, Int.reduceMul, Int.reduceNeg, Int.reduceLT, Int.reduceLE, Int.reduceEq, Int.cast_ofNat_Int, eq_self, and_true, true_and, ite_self, true_or, or_true, false_or, or_false, and_false, false_and, not_true_eq_false, not_false_eq_true, if_true, if_false, e_R_lives_0, e_R_lives_30, e_R_lives_61, e_R_lives_92, e_R_lives_111, e_R_lives_112, e_R_lives_141, e_R_lives_175, e_R_lives_178, e_R_lives_185, eb, z4, w138]
        refine EV_call (CV_mono hk ?_)
        intro r2 y hy2
        have hz := hy2 (500 + 6 * r)
        simp (disch := first | assumption | omega) only [rn, wk, al, wr_e, td_e, tm_e, mset_eq, mset_ne, if_pos, if_neg, Int.reduceAdd, Int.reduceSub, Int.reduceMul, Int.reduceNeg, Int.reduceLT, Int.reduceLE, Int.reduceEq, Int.cast_ofNat_Int, eq_self, and_true, true_and, ite_self, true_or, or_true, false_or, or_false, and_false, false_and, not_true_eq_false, not_false_eq_true, if_true, if_false]
        exact hz
  apply c_Life_behindStep
  rcases hb with e | e
  · have hp := key (L + 1) (Or.inr ⟨rfl, e⟩)
    simp (disch := first | assumption | omega) only [rn, wk, al, wr_e, td_e, tm_e, mset_eq, mset_ne, if_pos, if_neg, Int.reduceAdd, Int.reduceSub, Int.reduceMul, Int.reduceNeg, Int.reduceLT, Int.reduceLE, Int.reduceEq, Int.cast_ofNat_Int, eq_self, and_true, true_and, ite_self, true_or, or_true, false_or, or_false, and_false, false_and, not_true_eq_false, not_false_eq_true, if_true, if_false, e_Life_behindStep_0, e_Life_behindStep_40, e_Life_behindStep_45, e_Life_behindStep_61, e_Life_behindStep_69, e_Life_behindStep_70, e_Life_behindStep_100, e_Life_behindStep_103, e_Life_behindStep_104, ah hh, w13, qh, e, w19]
    exact hp
  · have hp := key (r + 1) (Or.inl ⟨rfl, e⟩)
    simp (disch := first | assumption | omega) only [rn, wk, al, wr_e, td_e, tm_e, mset_eq, mset_ne, if_pos, if_neg, Int.reduceAdd, Int.reduceSub, Int.reduceMul, Int.reduceNeg, Int.reduceLT, Int.reduceLE, Int.reduceEq, Int.cast_ofNat_Int, eq_self, and_true, true_and, ite_self, true_or, or_true, false_or, or_false, and_false, false_and, not_true_eq_false, not_false_eq_true, if_true, if_false, e_Life_behindStep_0, e_Life_behindStep_40, e_Life_behindStep_45, e_Life_behindStep_61, e_Life_behindStep_69, e_Life_behindStep_70, e_Life_behindStep_100, e_Life_behindStep_103, e_Life_behindStep_104, ah hh, w13, qh, e]
    exact hp
