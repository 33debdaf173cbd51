/-! ===== H2: live, one row of both runs ===== -/
theorem be_call (d' : Nat) (sd q : Int) (u : Mem) (F : Int → Mem → Prop) (h : GoB d' sd q u F) : CV (d' + 10) 365 [137, q] u (fun r2 w => ∀ z3, EV (d' + 10) o_R_lives 32 [] [137, sd, r2, z3] w F) := by
  have hx := h q 0 0
  apply c_R_behindEnds
  simp (disch := first | assumption | omega) only [rn, wk, al, wr_e, td_e, tm_e, mset_eq, mset_ne, if_pos, if_neg, Int.reduceAdd, Int.reduceSub, Int.reduceMul, Int.reduceNeg, Int.reduceLT, Int.reduceLE, Int.reduceEq, Int.cast_ofNat_Int, eq_self, and_true, true_and, ite_self, true_or, or_true, false_or, or_false, and_false, false_and, not_true_eq_false, not_false_eq_true, if_true, if_false, e_R_behindEnds_0, e_R_behindEnds_78, e_R_behindEnds_79, e_R_behindEnds_97, e_R_behindEnds_98, e_R_behindEnds_111, e_R_behindEnds_114, e_R_behindEnds_118]
  exact hx
theorem rl_pre (d' : Nat) (sd r : Int) (u : Mem) (F : Int → Mem → Prop) (n0 : Int) (hb : 0 ≤ r ∧ r < 60) (h7 : r < u 138 7) (hc : u 138 (500 + 6 * r) ≠ 17) (hs : u 138 (500 + 6 * r) ≠ 18) (h42 : u 137 42 = n0) (hn : 0 ≤ n0 ∧ n0 < 300) (K : EV (d' + 10) o_R_lives 92 [] [137, sd, r, 500 + 6 * r] (mset u 137 42 (n0 + 1)) F) : GoB d' sd r u F := by
  refine rl_in d' sd r u F hb h7 hc (fun z3 => ?_)
  rw [e_R_lives_32]
  simp (disch := first | assumption | omega) only [rn, wk, al, wr_e, td_e, tm_e, mset_eq, mset_ne, if_pos, if_neg, Int.reduceAdd, Int.reduceSub, Int.reduceMul, Int.reduceNeg, Int.reduceLT, Int.reduceLE, Int.reduceEq, Int.cast_ofNat_Int, eq_self, and_true, true_and, ite_self, true_or, or_true, false_or, or_false, and_false, false_and, not_true_eq_false, not_false_eq_true, if_true, if_false, e_R_lives_0, e_R_lives_30, e_R_lives_61, e_R_lives_111, e_R_lives_112, e_R_lives_141, e_R_lives_175, e_R_lives_178, e_R_lives_185, h42]
  exact K
/-- the row r of an end -/
theorem VR_19 {h : Int} {s : Mem} {r : Int} (q : VR (win s h) r) (hw : s (h + 13) r = 19) : (0 ≤ s (h + 19) r ∧ s (h + 19) r < r) ∧ (s (h + 13) (s (h + 19) r) = 15 ∨ s (h + 13) (s (h + 19) r) = 18) ∧ s (h + 19) (s (h + 19) r) = r := by
  unfold VR at q
  simp only [win] at q
  rcases q with ⟨q, -⟩ | ⟨q, -⟩ | q | ⟨q, -⟩ | ⟨q, -⟩ | ⟨-, q1, q2, q3⟩
  · omega
  · omega
  · omega
  · omega
  · omega
  · exact ⟨q1, q2, q3⟩
theorem VR_18 {h : Int} {s : Mem} {r : Int} (q : VR (win s h) r) (hw : s (h + 13) r = 18) : (r < s (h + 19) r ∧ s (h + 19) r < s (h + 12) 2 ∧ s (h + 13) (s (h + 19) r) = 19 ∧ s (h + 19) (s (h + 19) r) = r) ∧ (s (h + 13) (r + 1) = 19 → s (h + 19) r = r + 1) ∧ (1 ≤ s (h + 18) r ∧ s (h + 18) r ≤ 99) := by
  unfold VR at q
  simp only [win] at q
  rcases q with ⟨q, -⟩ | ⟨q, -⟩ | q | ⟨q, -⟩ | ⟨-, q1, q2, q3⟩ | ⟨q, -⟩
  · omega
  · omega
  · omega
  · omega
  · exact ⟨q1, q2, q3⟩
  · omega
theorem VR_15 {h : Int} {s : Mem} {r : Int} (q : VR (win s h) r) (hw : s (h + 13) r = 15) : r < s (h + 19) r ∧ s (h + 19) r < s (h + 12) 2 ∧ s (h + 13) (s (h + 19) r) = 19 ∧ s (h + 19) (s (h + 19) r) = r := by
  unfold VR at q
  simp only [win] at q
  rcases q with ⟨q, -⟩ | ⟨q, -⟩ | q | ⟨-, q1, -⟩ | ⟨q, -⟩ | ⟨q, -⟩
  · omega
  · omega
  · omega
  · exact q1
  · omega
  · omega
theorem t_end (d d' : Nat) (sd : Int) {h : Int} (hh : isH h) (s : Mem) (r : Int) (hC : CI_ h s r) (hr : r < s (h + 12) 2) (hw : s (h + 13) r = 19) : CV (d + 1) 197 [12, h + 12, r] s fun q s1 => Stp_ d' sd h s r q s1 := by
  have hu37 : 37 ≤ h ∧ h ≤ 117 := by unfold isH at hh; omega
  obtain ⟨i1, i2, i3, i4, i5, i6, i7, i8⟩ := hC
  obtain ⟨v, hv⟩ := id i1
  obtain ⟨v1, v2, v3⟩ := HRu_v hv i2
  obtain ⟨q1, q2, q3⟩ := VR_19 (v2 r ⟨i3.1, hr⟩) hw
  have a13 : h + 12 + 1 = h + 13 := by omega
  have a19 : h + 12 + 7 = h + 19 := by omega
  obtain ⟨b, hb⟩ : ∃ b, b = s (h + 19) r := ⟨_, rfl⟩
  rw [← hb] at q1 q2 q3
  have w19 : s (h + 12 + 7) r = b := by rw [a19]; exact hb.symm
  have z4 : 500 + 6 * r + 4 = 504 + 6 * r := by omega
  have ru : ∀ u, HRu h s u → u 138 7 = s (h + 12) 2 ∧ u 138 (500 + 6 * r) = 17 ∧ u 138 (504 + 6 * r) = b := fun u hu => by
    obtain ⟨x1, x2⟩ := HRu_r hu i2
    have := (x2 r ⟨i3.1, hr⟩).2.2.2.2.2.2.2.2 hw
    rw [hb]
    exact ⟨x1, this⟩
  have nextO : ∀ n, Opn h s (r + 1) n → Opn h s r n ∧ n ≠ b := by
    rintro n ⟨o1, o2, o3⟩
    have hn : n ≠ r := fun e => by rw [e] at o2; omega
    refine ⟨⟨by omega, o2, by omega⟩, fun e => ?_⟩
    rw [e] at o3; omega
  have nextN : NE_ h s (r + 1) := fun ⟨_, _, k⟩ => by rw [show r + 1 - 1 = r by omega] at k; omega
  apply c_Life_behindEnd
  rcases q2 with q2 | q2
  · have w13 : s (h + 12 + 1) b = 15 := by rw [a13]; exact q2
    have hp : Stp_ d' sd h s r (r + 1) s := by
      refine ⟨fun _ _ _ => rfl, ⟨i1, i2, by omega, i4, i5, i6, fun n hn => i7 n (nextO n hn).1, nextN⟩, ?_, ?_⟩
      · unfold pot; rw [if_pos hw]; split <;> omega
      · intro u0 u F hR K f0 z z'
        obtain ⟨hu, hc, hl, hf⟩ := hR
        obtain ⟨x7, x0, x4⟩ := ru u hu
        have xb := Rw_ hu i2 (r := b) (by omega)
        obtain ⟨x, hx⟩ : ∃ x, wr (u 152 b - 0) = x := ⟨_, rfl⟩
        have hk := K (mset u 152 b x) ⟨HRu_rf (fun i => mset_ne (by omega)) (fun i => mset_ne (by omega)) hu, hc, fun n hn => by rw [mset_ne (by have := (nextO n hn).2; omega)]; exact hl n (nextO n hn).1, fun c i a1 a2 a3 a4 a5 a6 => by rw [mset_ne (by omega)]; exact hf c i a1 a2 a3 a4 a5 a6⟩ f0 b 0
        rw [e_R_behindEnds_2]
        simp (disch := first | assumption | omega) only [rn, wk, al, wr_e, td_e, tm_e, mset_eq, mset_ne, if_pos, if_neg, Int.reduceAdd, Int.reduceSub, Int.reduceMul, Int.reduceNeg, Int.reduceLT, Int.reduceLE, Int.reduceEq, Int.cast_ofNat_Int, eq_self, and_true, true_and, ite_self, true_or, or_true, false_or, or_false, and_false, false_and, not_true_eq_false, not_false_eq_true, if_true, if_false, e_R_behindEnds_0, e_R_behindEnds_78, e_R_behindEnds_79, e_R_behindEnds_97, e_R_behindEnds_98, e_R_behindEnds_111, e_R_behindEnds_114, e_R_behindEnds_118, x7, x0, z4, x4, hx]
        exact hk
    simp (disch := first | assumption | omega) only [rn, wk, al, wr_e, td_e, tm_e, mset_eq, mset_ne, if_pos, if_neg, Int.reduceAdd, Int.reduceSub, Int.reduceMul, Int.reduceNeg, Int.reduceLT, Int.reduceLE, Int.reduceEq, Int.cast_ofNat_Int, eq_self, and_true, true_and, ite_self, true_or, or_true, false_or, or_false, and_false, false_and, not_true_eq_false, not_false_eq_true, if_true, if_false, e_Life_behindEnd_0, e_Life_behindEnd_41, ah hh, w19, w13]
    exact hp
  · have w13 : s (h + 12 + 1) b = 18 := by rw [a13]; exact q2
    have ob : Opn h s r b := ⟨by omega, q2, by omega⟩
    have tb := i7 b ob
    obtain ⟨g1, g2, g3⟩ := VR_18 (v2 b (by omega)) q2
    by_cases c1 : 0 < s 13 b - 1
    · have hne : s (h + 13) (b + 1) ≠ 19 := fun e => by
        have := g2 e
        apply i8
        refine ⟨hw, ?_, ?_⟩
        · rw [← hb]; omega
        · rw [show r - 1 = b by omega]; exact q2
      have backO : ∀ n, Opn h s (b + 1) n → n = b ∨ Opn h s r n := by
        rintro n ⟨o1, o2, o3⟩
        by_cases e : n = b
        · exact Or.inl e
        · right
          refine ⟨by omega, o2, ?_⟩
          have := v3 n b (by omega) (by omega) (show b < s (h + 12) 2 by omega) (Or.inr o2) (show b < s (h + 19) n by omega) (Or.inr q2)
          have this' : s (h + 19) b < s (h + 19) n := this
          omega
      obtain ⟨s1, hs1⟩ : ∃ s1, s1 = mset s 13 b (s 13 b - 1) := ⟨_, rfl⟩
      have sf : ∀ c i, ¬ (c = 13 ∧ i = b) → s1 c i = s c i := fun c i hc => by rw [hs1, mset_ne (by omega)]
      have sb_ : s1 13 b = s 13 b - 1 := by rw [hs1, mset_eq rfl rfl]
      have fc : Fcl h s s1 := fun c i hc => sf c i (by omega)
      have hp : Stp_ d' sd h s r (b + 1) s1 := by
        refine ⟨fc, ⟨⟨v, HRu_cl (fun c i hc => sf c i (by omega)) hv⟩, by rw [sf _ _ (by omega)]; exact i2, by rw [sf _ _ (by omega)]; omega, by rw [sf _ _ (by omega)]; exact i4, fun j a c => by rw [sf _ _ (by omega), sf _ _ (by omega)]; exact i5 j a c, by rw [sf _ _ (by omega)]; exact i6, fun n hn => ?_, ?_⟩, ?_, ?_⟩
        · rcases backO n ((Opn_congr fc hh).1 hn) with e | e
          · rw [e, sb_]; omega
          · by_cases en : n = b
            · rw [en, sb_]; omega
            · rw [sf _ _ (by omega)]; exact i7 n e
        · rw [NE_congr fc hh]
          exact fun ⟨k, _, _⟩ => hne k
        · unfold pot
          rw [if_pos hw, sf 12 0 (by omega), sf (h + 13) (b + 1) (by omega), if_neg hne]
          omega
        · intro u0 u F hR K f0 z z'
          obtain ⟨hu, hc, hl, hf⟩ := hR
          obtain ⟨x7, x0, x4⟩ := ru u hu
          have xb : u 138 (500 + 6 * b) = 16 := by
            have := Rw_ hu i2 (r := b) (by omega)
            omega
          have lb := hl b ob
          have hk := K (mset u 152 b (u 152 b - 1)) ⟨HRu_cl (fun c i hc => sf c i (by omega)) (HRu_rf (fun i => mset_ne (by omega)) (fun i => mset_ne (by omega)) hu), ?_, fun n hn => ?_, fun c i a1 a2 a3 a4 a5 a6 => by rw [mset_ne (by omega)]; exact hf c i a1 a2 a3 a4 a5 a6⟩ f0 b 1
          · rw [e_R_behindEnds_2]
            simp (disch := first | assumption | omega) only [rn, wk, al, wr_e, td_e, tm_e, mset_eq, mset_ne, if_pos, if_neg, Int.reduceAdd, Int.reduceSub, Int.reduceMul, Int.reduceNeg, Int.reduceLT, Int.reduceLE, Int.reduceEq, Int.cast_ofNat_Int, eq_self, and_true, true_and, ite_self, true_or, or_true, false_or, or_false, and_false, false_and, not_true_eq_false, not_false_eq_true, if_true, if_false, e_R_behindEnds_0, e_R_behindEnds_78, e_R_behindEnds_79, e_R_behindEnds_97, e_R_behindEnds_98, e_R_behindEnds_111, e_R_behindEnds_114, e_R_behindEnds_118, x7, x0, z4, x4, xb]
            exact hk
          · unfold Cnt
            simp (disch := omega) only [mset_ne, sf]
            exact hc
          · rcases backO n ((Opn_congr fc hh).1 hn) with e | e
            · rw [e, sb_, mset_eq rfl rfl]; omega
            · by_cases en : n = b
              · rw [en, sb_, mset_eq rfl rfl]; omega
              · rw [sf _ _ (by omega), mset_ne (by omega)]; exact hl n e
      simp (disch := first | assumption | omega) only [rn, wk, al, wr_e, td_e, tm_e, mset_eq, mset_ne, if_pos, if_neg, Int.reduceAdd, Int.reduceSub, Int.reduceMul, Int.reduceNeg, Int.reduceLT, Int.reduceLE, Int.reduceEq, Int.cast_ofNat_Int, eq_self, and_true, true_and, ite_self, true_or, or_true, false_or, or_false, and_false, false_and, not_true_eq_false, not_false_eq_true, if_true, if_false, e_Life_behindEnd_0, e_Life_behindEnd_41, ah hh, w19, w13, ← hs1]
      exact hp
    · obtain ⟨s1, hs1⟩ : ∃ s1, s1 = mset s 13 b (s 13 b - 1) := ⟨_, rfl⟩
      have sf : ∀ c i, ¬ (c = 13 ∧ i = b) → s1 c i = s c i := fun c i hc => by rw [hs1, mset_ne (by omega)]
      have fc : Fcl h s s1 := fun c i hc => sf c i (by omega)
      have hp : Stp_ d' sd h s r (r + 1) s1 := by
        refine ⟨fc, ⟨⟨v, HRu_cl (fun c i hc => sf c i (by omega)) hv⟩, by rw [sf _ _ (by omega)]; exact i2, by rw [sf _ _ (by omega)]; omega, by rw [sf _ _ (by omega)]; exact i4, fun j a c => by rw [sf _ _ (by omega), sf _ _ (by omega)]; exact i5 j a c, by rw [sf _ _ (by omega)]; exact i6, fun n hn => ?_, ?_⟩, ?_, ?_⟩
        · have := nextO n ((Opn_congr fc hh).1 hn)
          rw [sf _ _ (by omega)]; exact i7 n this.1
        · rw [NE_congr fc hh]
          exact nextN
        · unfold pot
          rw [if_pos hw, sf 12 0 (by omega)]
          split <;> omega
        · intro u0 u F hR K f0 z z'
          obtain ⟨hu, hc, hl, hf⟩ := hR
          obtain ⟨x7, x0, x4⟩ := ru u hu
          have xb : u 138 (500 + 6 * b) = 16 := by
            have := Rw_ hu i2 (r := b) (by omega)
            omega
          have lb := hl b ob
          have u0' : u 152 b = 0 := by omega
          have hk := K (mset u 152 b 0) ⟨HRu_cl (fun c i hc => sf c i (by omega)) (HRu_rf (fun i => mset_ne (by omega)) (fun i => mset_ne (by omega)) hu), ?_, fun n hn => ?_, fun c i a1 a2 a3 a4 a5 a6 => by rw [mset_ne (by omega)]; exact hf c i a1 a2 a3 a4 a5 a6⟩ f0 b 0
          · rw [e_R_behindEnds_2]
            simp (disch := first | assumption | omega) only [rn, wk, al, wr_e, td_e, tm_e, mset_eq, mset_ne, if_pos, if_neg, Int.reduceAdd, Int.reduceSub, Int.reduceMul, Int.reduceNeg, Int.reduceLT, Int.reduceLE, Int.reduceEq, Int.cast_ofNat_Int, eq_self, and_true, true_and, ite_self, true_or, or_true, false_or, or_false, and_false, false_and, not_true_eq_false, not_false_eq_true, if_true, if_false, e_R_behindEnds_0, e_R_behindEnds_78, e_R_behindEnds_79, e_R_behindEnds_97, e_R_behindEnds_98, e_R_behindEnds_111, e_R_behindEnds_114, e_R_behindEnds_118, x7, x0, z4, x4, xb, u0']
            exact hk
          · unfold Cnt
            simp (disch := omega) only [mset_ne, sf]
            exact hc
          · have := nextO n ((Opn_congr fc hh).1 hn)
            rw [sf _ _ (by omega), mset_ne (by omega)]; exact hl n this.1
      have sb_ : s1 13 b = 0 := by rw [hs1, mset_eq rfl rfl]; omega
      simp (disch := first | assumption | omega) only [rn, wk, al, wr_e, td_e, tm_e, mset_eq, mset_ne, if_pos, if_neg, Int.reduceAdd, Int.reduceSub, Int.reduceMul, Int.reduceNeg, Int.reduceLT, Int.reduceLE, Int.reduceEq, Int.cast_ofNat_Int, eq_self, and_true, true_and, ite_self, true_or, or_true, false_or, or_false, and_false, false_and, not_true_eq_false, not_false_eq_true, if_true, if_false, e_Life_behindEnd_0, e_Life_behindEnd_41, ah hh, w19, w13, ← hs1, sb_]
      exact hp
