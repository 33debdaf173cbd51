/-! ===== H2: live, the other acts ===== -/
theorem VR_w {h : Int} {s : Mem} {r : Int} (q : VR (win s h) r) : s (h + 12 + 1) r = 12 → (0 ≤ s (h + 15) r ∧ s (h + 15) r < s h 4) ∧ (0 ≤ s (h + 16) r ∧ s (h + 16) r < s h 1) := by
  intro hw
  have a13 : h + 12 + 1 = h + 13 := by omega
  rw [a13] at hw
  have hw' : win s h 13 r = 12 := hw
  unfold VR at q
  rw [win0, win0] at q
  rcases q with ⟨q, -⟩ | ⟨-, q1, q2⟩ | q | ⟨q, -⟩ | ⟨q, -⟩ | ⟨q, -⟩
  · omega
  · exact ⟨q1, q2⟩
  all_goals omega
theorem act_any (d : Nat) {h : Int} (hh : isH h) (s : Mem) (hV : Vh h s) (hC : Cb s) (h1 : s (h + 12) 0 = 1) (r : Int) (hr : 0 ≤ r ∧ r < s (h + 12) 2) (hw : s (h + 12 + 1) r = 14) : CV (d + 6) 201 [12, h, h + 12, r] s fun _ t => ActP h s r t := by
  have hu37 : 37 ≤ h ∧ h ≤ 117 := by unfold isH at hh; omega
  obtain ⟨b1, b2, b3, b4⟩ := Cb_4 hC
  have hV' := hV
  obtain ⟨v, hv⟩ := hV'
  obtain ⟨v1, v2, -⟩ := HRu_v hv h1
  obtain ⟨c0, -⟩ := HRu_c hv
  have a13 : h + 12 + 1 = h + 13 := by omega
  have hw' : win s h 13 r = 14 := by rw [a13] at hw; exact hw
  have hd : ∀ u, HRu h s u → u 138 (500 + 6 * r) = 14 := fun u hu => ((HRu_r hu h1).2 r hr).2.2.2.2.1 hw'
  apply c_Life_act
  simp (disch := first | assumption | omega) only [rn, wk, al, wr_e, td_e, tm_e, mset_eq, mset_ne, if_pos, if_neg, Int.reduceAdd, Int.reduceSub, Int.reduceMul, Int.reduceNeg, Int.reduceLT, Int.reduceLE, Int.reduceEq, Int.cast_ofNat_Int, eq_self, and_true, true_and, ite_self, true_or, or_true, false_or, or_false, and_false, false_and, not_true_eq_false, not_false_eq_true, if_true, if_false, e_Life_act_0, e_Life_act_40, e_Life_act_66, e_Life_act_74, e_Life_act_82, e_Life_act_102, e_Life_act_109, ah hh, hw]
  have hcall : CV (d + 5) 203 [12, h] s fun _ t => ActP h s r t := by
    apply c_Life_speakByDraws
    by_cases e4 : s h 4 = 0
    · have hp : ActP h s r (mset s 12 1 (s 12 1 + 1)) := by
        refine ⟨⟨fun c i hc => by rw [mset_ne (by omega)], Cm_1 (j0 := 1) (by omega) (fun j hj => by rw [mset_ne (by omega)]) (mset_eq rfl rfl) hC⟩, fun d' u m hu hc => ?_⟩
        obtain ⟨c1, c2, c3, c4, c5, c6, c7⟩ := hc
        have y0 := hd u hu
        have x3 : u 138 3 = 0 := by have := (HRu_c hu).2; omega
        have q : sem (d' + 9) 361 [137] u = some (0, u) := by
          apply CV_eq; apply c_R_saysAny
          simp (disch := first | assumption | omega) only [rn, wk, al, wr_e, td_e, tm_e, mset_eq, mset_ne, if_pos, if_neg, Int.reduceAdd, Int.reduceSub, Int.reduceMul, Int.reduceNeg, Int.reduceLT, Int.reduceLE, Int.reduceEq, Int.cast_ofNat_Int, eq_self, and_true, true_and, ite_self, true_or, or_true, false_or, or_false, and_false, false_and, not_true_eq_false, not_false_eq_true, if_true, if_false, e_R_saysAny_0, e_R_saysAny_11, e_R_saysAny_49, e_R_saysAny_50, x3]
        have hpost : ActR h (mset s 12 1 (s 12 1 + 1)) u m 0 u := by
          refine ⟨⟨Or.inl rfl, ⟨?_, ?_, ?_, ?_, ?_, ?_, ?_⟩, fun c i _ _ _ _ _ => rfl⟩, HRu_cl (fun c i hc => mset_ne (by omega)) hu⟩
          · rw [mset_ne (by omega)]; exact c1
          · rw [mset_eq rfl rfl]; omega
          · rw [mset_ne (by omega)]; exact c3
          · rw [mset_ne (by omega)]; exact c4
          · rw [mset_ne (by omega)]; exact c5
          · rw [mset_ne (by omega)]; exact c6
          · rw [mset_ne (by omega)]; exact c7
        apply c_R_does
        simp (disch := first | assumption | omega) only [rn, wk, al, wr_e, td_e, tm_e, mset_eq, mset_ne, if_pos, if_neg, Int.reduceAdd, Int.reduceSub, Int.reduceMul, Int.reduceNeg, Int.reduceLT, Int.reduceLE, Int.reduceEq, Int.cast_ofNat_Int, eq_self, and_true, true_and, ite_self, true_or, or_true, false_or, or_false, and_false, false_and, not_true_eq_false, not_false_eq_true, if_true, if_false, e_R_does_0, e_R_does_60, e_R_does_83, e_R_does_84, e_R_does_88, e_R_does_106, e_R_does_121, e_R_does_126, e_R_does_131, y0, q]
        exact hpost
      simp (disch := first | assumption | omega) only [rn, wk, al, wr_e, td_e, tm_e, mset_eq, mset_ne, if_pos, if_neg, Int.reduceAdd, Int.reduceSub, Int.reduceMul, Int.reduceNeg, Int.reduceLT, Int.reduceLE, Int.reduceEq, Int.cast_ofNat_Int, eq_self, and_true, true_and, ite_self, true_or, or_true, false_or, or_false, and_false, false_and, not_true_eq_false, not_false_eq_true, if_true, if_false, e_Life_speakByDraws_0, e_Life_speakByDraws_18, e4]
      exact hp
    · obtain ⟨x1, hx1⟩ : ∃ x1, x1 = nx (s 12 6) := ⟨_, rfl⟩
      have n1' := nx_b (s 12 6)
      rw [← hx1] at n1'
      have q1 := q_Ldraw (d + 3) (s h 4) s hC.1 (by omega)
      rw [← hx1] at q1
      obtain ⟨x2, hx2⟩ : ∃ x2, x2 = nx x1 := ⟨_, rfl⟩
      have n2' := nx_b x1
      rw [← hx2] at n2'
      obtain ⟨s1, hs1⟩ : ∃ s1, s1 = mset s 12 6 x1 := ⟨_, rfl⟩
      have s16 : s1 12 6 = x1 := by rw [hs1, mset_eq rfl rfl]
      have q2 := q_Ldraw (d + 3) 3 s1 (by rw [s16]; exact n1') (by omega)
      rw [s16, ← hx2] at q2
      obtain ⟨x3, hx3⟩ : ∃ x3, x3 = nx x2 := ⟨_, rfl⟩
      have n3' := nx_b x2
      rw [← hx3] at n3'
      obtain ⟨s2, hs2⟩ : ∃ s2, s2 = mset s1 12 6 x2 := ⟨_, rfl⟩
      have s26 : s2 12 6 = x2 := by rw [hs2, mset_eq rfl rfl]
      have q3 := q_Ldraw (d + 3) 21 s2 (by rw [s26]; exact n2') (by omega)
      rw [s26, ← hx3] at q3
      obtain ⟨s3, hs3⟩ : ∃ s3, s3 = mset s2 12 6 x3 := ⟨_, rfl⟩
      have sf : ∀ c i, ¬ (c = 12 ∧ i = 6) → s3 c i = s c i := fun c i hc => by rw [hs3, mset_ne (by omega), hs2, mset_ne (by omega), hs1, mset_ne (by omega)]
      have s36 : s3 12 6 = x3 := by rw [hs3, mset_eq rfl rfl]
      have hC3 : Cb s3 := ⟨by rw [s36]; exact n3', fun j a b => by rw [sf _ _ (by omega)]; exact hC.2 j a b⟩
      have hV3 : Vh h s3 := ⟨v, HRu_cl (fun c i hc => sf c i (by omega)) hv⟩
      simp (disch := first | assumption | omega) only [rn, wk, al, wr_e, td_e, tm_e, mset_eq, mset_ne, if_pos, if_neg, Int.reduceAdd, Int.reduceSub, Int.reduceMul, Int.reduceNeg, Int.reduceLT, Int.reduceLE, Int.reduceEq, Int.cast_ofNat_Int, eq_self, and_true, true_and, ite_self, true_or, or_true, false_or, or_false, and_false, false_and, not_true_eq_false, not_false_eq_true, if_true, if_false, e_Life_speakByDraws_0, e_Life_speakByDraws_18, q1, ← hs1, q2, ← hs2, q3, ← hs3]
      obtain ⟨k1, hk1⟩ : ∃ k1, k1 = x1 / 8 % s h 4 := ⟨_, rfl⟩
      obtain ⟨k2, hk2⟩ : ∃ k2, k2 = x2 / 8 % 3 := ⟨_, rfl⟩
      obtain ⟨k3, hk3⟩ : ∃ k3, k3 = x3 / 8 % 21 := ⟨_, rfl⟩
      rw [← hk1, ← hk2, ← hk3]
      refine EV_call (CV_mono (q_Lspeak (d + 1) hh k1 k2 k3 s3 hV3 (by omega) hC3) ?_)
      rintro r2 t ⟨t1, t2, t3⟩
      have t26 : t 12 6 = x3 := by
        rcases t2 with ⟨k1, k2⟩ | ⟨k1, k2⟩
        · rw [k1 6 (by omega)]; exact s36
        · rw [k1 6 (by omega)]; exact s36
      have hp : ActP h s r t := by
        refine ⟨⟨fun c i hc => by rw [t1 c i hc]; exact sf c i (by omega), ?_⟩, fun d' u m hu hc => ?_⟩
        · have hm : Cm s3 t := by
            rcases t2 with ⟨k1, k2⟩ | ⟨k1, k2⟩
            · exact Cm_1 (by omega) (fun j hj => k1 j hj) k2 hC3
            · exact Cm_1 (by omega) (fun j hj => k1 j hj) k2 hC3
          obtain ⟨m1, m2, m3, m4⟩ := hm
          exact ⟨by rw [m1]; exact sf _ _ (by omega), by rw [m2]; exact sf _ _ (by omega), m3, fun j a b => by have := m4 j a b; rw [sf _ _ (by omega)] at this; exact this⟩
        · obtain ⟨c1, c2, c3, c4, c5, c6, c7⟩ := hc
          have y0 := hd u hu
          have x30 : u 138 3 = s h 4 := by have := (HRu_c hu).2; omega
          have p1 := q_Rdraw (d' + 7) (s h 4) u (by rw [c7]; exact hC.1) (by omega)
          rw [c7, ← hx1, ← hk1] at p1
          obtain ⟨u1, hu1⟩ : ∃ u1, u1 = mset u 137 41 x1 := ⟨_, rfl⟩
          have u16 : u1 137 41 = x1 := by rw [hu1, mset_eq rfl rfl]
          have p2 := q_Rdraw (d' + 7) 3 u1 (by rw [u16]; exact n1') (by omega)
          rw [u16, ← hx2, ← hk2] at p2
          obtain ⟨u2, hu2⟩ : ∃ u2, u2 = mset u1 137 41 x2 := ⟨_, rfl⟩
          have u26 : u2 137 41 = x2 := by rw [hu2, mset_eq rfl rfl]
          have p3 := q_Rdraw (d' + 7) 21 u2 (by rw [u26]; exact n2') (by omega)
          rw [u26, ← hx3, ← hk3] at p3
          obtain ⟨u3, hu3⟩ : ∃ u3, u3 = mset u2 137 41 x3 := ⟨_, rfl⟩
          have uf : ∀ c i, ¬ (c = 137 ∧ i = 41) → u3 c i = u c i := fun c i hc => by rw [hu3, mset_ne (by omega), hu2, mset_ne (by omega), hu1, mset_ne (by omega)]
          have u36 : u3 137 41 = x3 := by rw [hu3, mset_eq rfl rfl]
          have hu3' : HRu h s3 u3 := HRu_cl (fun c i hc => sf c i (by omega)) (HRu_rf (fun i => uf _ _ (by omega)) (fun i => uf _ _ (by omega)) hu)
          have hany : CV (d' + 9) 361 [137] u (ActR h t u m) := by
            apply c_R_saysAny
            simp (disch := first | assumption | omega) only [rn, wk, al, wr_e, td_e, tm_e, mset_eq, mset_ne, if_pos, if_neg, Int.reduceAdd, Int.reduceSub, Int.reduceMul, Int.reduceNeg, Int.reduceLT, Int.reduceLE, Int.reduceEq, Int.cast_ofNat_Int, eq_self, and_true, true_and, ite_self, true_or, or_true, false_or, or_false, and_false, false_and, not_true_eq_false, not_false_eq_true, if_true, if_false, e_R_saysAny_0, e_R_saysAny_11, e_R_saysAny_49, e_R_saysAny_50, x30, p1, ← hu1, p2, ← hu2, p3, ← hu3]
            refine EV_call (CV_mono (t3 (d' + 4) u3 hu3') ?_)
            rintro r' w ⟨⟨w1, w2⟩, w3⟩
            have G : ∀ c i, c = 153 ∨ (c = 137 ∧ i > 40) → w c i = u3 c i := fun c i hc => w2 c i (by omega) (by omega) (by omega) (by omega)
            have g1 : w 153 1 = u 153 1 := by rw [G _ _ (by omega), uf _ _ (by omega)]
            have wf : Frd u w := fun c i a1 a2 a3 a4 a5 => by rw [w2 c i a1 a2 (by omega) a4, uf c i (by omega)]
            have sj : ∀ j, j ≠ 6 → s3 12 j = s 12 j := fun j hj => sf _ _ (by omega)
            rcases w1 with ⟨k1, k2⟩ | ⟨k1, k2⟩
            · have q := q_counts1 (d' + 7) 1 w (by omega) (by omega)
              rcases t2 with ⟨k3, k4⟩ | ⟨k3, k4⟩
              · have hpost : ActR h t u m 1 (mset w 153 1 (w 153 1 + 1)) := by
                  refine ⟨⟨Or.inr rfl, ⟨?_, ?_, ?_, ?_, ?_, ?_, ?_⟩, fun c i a1 a2 a3 a4 a5 => by rw [mset_ne (by omega)]; exact wf c i a1 a2 a3 a4 a5⟩, HRu_rf (fun i => mset_ne (by omega)) (fun i => mset_ne (by omega)) w3⟩
                  · rw [mset_ne (by omega), G _ _ (by omega), uf _ _ (by omega), k3 0 (by omega), sj 0 (by omega)]; exact c1
                  · rw [k3 1 (by omega), sj 1 (by omega)]; omega
                  · rw [mset_eq rfl rfl, g1, k4, sj 2 (by omega), c3]
                  · rw [mset_ne (by omega), G _ _ (by omega), uf _ _ (by omega), k3 3 (by omega), sj 3 (by omega)]; exact c4
                  · rw [mset_ne (by omega), G _ _ (by omega), uf _ _ (by omega), k3 4 (by omega), sj 4 (by omega)]; exact c5
                  · rw [mset_ne (by omega), G _ _ (by omega), uf _ _ (by omega), k3 5 (by omega), sj 5 (by omega)]; exact c6
                  · rw [mset_ne (by omega), G _ _ (by omega), u36, t26]
                simp (disch := first | assumption | omega) only [rn, wk, al, wr_e, td_e, tm_e, mset_eq, mset_ne, if_pos, if_neg, Int.reduceAdd, Int.reduceSub, Int.reduceMul, Int.reduceNeg, Int.reduceLT, Int.reduceLE, Int.reduceEq, Int.cast_ofNat_Int, eq_self, and_true, true_and, ite_self, true_or, or_true, false_or, or_false, and_false, false_and, not_true_eq_false, not_false_eq_true, if_true, if_false, e_R_saysAny_0, e_R_saysAny_11, e_R_saysAny_49, e_R_saysAny_50, k2, q]
                exact hpost
              · exfalso
                have := k3 2 (by omega)
                omega
            · have q := q_counts0 (d' + 7) 1 w
              rcases t2 with ⟨k3, k4⟩ | ⟨k3, k4⟩
              · omega
              · have hpost : ActR h t u m 0 w := by
                  refine ⟨⟨Or.inl rfl, ⟨?_, ?_, ?_, ?_, ?_, ?_, ?_⟩, wf⟩, w3⟩
                  · rw [G _ _ (by omega), uf _ _ (by omega), k3 0 (by omega), sj 0 (by omega)]; exact c1
                  · rw [k4, sj 1 (by omega)]; omega
                  · rw [G _ _ (by omega), uf _ _ (by omega), k3 2 (by omega), sj 2 (by omega)]; exact c3
                  · rw [G _ _ (by omega), uf _ _ (by omega), k3 3 (by omega), sj 3 (by omega)]; exact c4
                  · rw [G _ _ (by omega), uf _ _ (by omega), k3 4 (by omega), sj 4 (by omega)]; exact c5
                  · rw [G _ _ (by omega), uf _ _ (by omega), k3 5 (by omega), sj 5 (by omega)]; exact c6
                  · rw [G _ _ (by omega), u36, t26]
                simp (disch := first | assumption | omega) only [rn, wk, al, wr_e, td_e, tm_e, mset_eq, mset_ne, if_pos, if_neg, Int.reduceAdd, Int.reduceSub, Int.reduceMul, Int.reduceNeg, Int.reduceLT, Int.reduceLE, Int.reduceEq, Int.cast_ofNat_Int, eq_self, and_true, true_and, ite_self, true_or, or_true, false_or, or_false, and_false, false_and, not_true_eq_false, not_false_eq_true, if_true, if_false, e_R_saysAny_0, e_R_saysAny_11, e_R_saysAny_49, e_R_saysAny_50, k2, q]
                exact hpost
          apply c_R_does
          simp (disch := first | assumption | omega) only [rn, wk, al, wr_e, td_e, tm_e, mset_eq, mset_ne, if_pos, if_neg, Int.reduceAdd, Int.reduceSub, Int.reduceMul, Int.reduceNeg, Int.reduceLT, Int.reduceLE, Int.reduceEq, Int.cast_ofNat_Int, eq_self, and_true, true_and, ite_self, true_or, or_true, false_or, or_false, and_false, false_and, not_true_eq_false, not_false_eq_true, if_true, if_false, e_R_does_0, e_R_does_60, e_R_does_83, e_R_does_84, e_R_does_88, e_R_does_106, e_R_does_121, e_R_does_126, e_R_does_131, y0]
          refine EV_call (CV_mono hany ?_)
          rintro r' w hw2
          have h01 := hw2.1.1
          simp (disch := first | assumption | omega) only [rn, wk, al, wr_e, td_e, tm_e, mset_eq, mset_ne, if_pos, if_neg, Int.reduceAdd, Int.reduceSub, Int.reduceMul, Int.reduceNeg, Int.reduceLT, Int.reduceLE, Int.reduceEq, Int.cast_ofNat_Int, eq_self, and_true, true_and, ite_self, true_or, or_true, false_or, or_false, and_false, false_and, not_true_eq_false, not_false_eq_true, if_true, if_false, e_R_does_0, e_R_does_60, e_R_does_83, e_R_does_84, e_R_does_88, e_R_does_106, e_R_does_121, e_R_does_126, e_R_does_131]
          exact hw2
      simp (disch := first | assumption | omega) only [rn, wk, al, wr_e, td_e, tm_e, mset_eq, mset_ne, if_pos, if_neg, Int.reduceAdd, Int.reduceSub, Int.reduceMul, Int.reduceNeg, Int.reduceLT, Int.reduceLE, Int.reduceEq, Int.cast_ofNat_Int, eq_self, and_true, true_and, ite_self, true_or, or_true, false_or, or_false, and_false, false_and, not_true_eq_false, not_false_eq_true, if_true, if_false, e_Life_speakByDraws_0, e_Life_speakByDraws_18]
      exact hp
  refine EV_call (CV_mono hcall ?_)
  rintro r2 t ht
  simp (disch := first | assumption | omega) only [rn, wk, al, wr_e, td_e, tm_e, mset_eq, mset_ne, if_pos, if_neg, Int.reduceAdd, Int.reduceSub, Int.reduceMul, Int.reduceNeg, Int.reduceLT, Int.reduceLE, Int.reduceEq, Int.cast_ofNat_Int, eq_self, and_true, true_and, ite_self, true_or, or_true, false_or, or_false, and_false, false_and, not_true_eq_false, not_false_eq_true, if_true, if_false, e_Life_act_0, e_Life_act_40, e_Life_act_66, e_Life_act_74, e_Life_act_82, e_Life_act_102, e_Life_act_109]
  exact ht
theorem act_hush (d : Nat) {h : Int} (hh : isH h) (s : Mem) (hV : Vh h s) (hC : Cb s) (h1 : s (h + 12) 0 = 1) (r : Int) (hr : 0 ≤ r ∧ r < s (h + 12) 2) (hw : s (h + 12 + 1) r = 11) : CV (d + 6) 201 [12, h, h + 12, r] s fun _ t => ActP h s r t := by
  have hu37 : 37 ≤ h ∧ h ≤ 117 := by unfold isH at hh; omega
  obtain ⟨b1, b2, b3, b4⟩ := Cb_4 hC
  have hV' := hV
  obtain ⟨v, hv⟩ := hV'
  obtain ⟨v1, v2, -⟩ := HRu_v hv h1
  obtain ⟨c0, -⟩ := HRu_c hv
  have a13 : h + 12 + 1 = h + 13 := by omega
  have hw' : win s h 13 r = 11 := by rw [a13] at hw; exact hw
  have hd : ∀ u, HRu h s u → u 138 (500 + 6 * r) = 11 := fun u hu => ((HRu_r hu h1).2 r hr).2.2.1 hw'
  apply c_Life_act
  simp (disch := first | assumption | omega) only [rn, wk, al, wr_e, td_e, tm_e, mset_eq, mset_ne, if_pos, if_neg, Int.reduceAdd, Int.reduceSub, Int.reduceMul, Int.reduceNeg, Int.reduceLT, Int.reduceLE, Int.reduceEq, Int.cast_ofNat_Int, eq_self, and_true, true_and, ite_self, true_or, or_true, false_or, or_false, and_false, false_and, not_true_eq_false, not_false_eq_true, if_true, if_false, e_Life_act_0, e_Life_act_40, e_Life_act_66, e_Life_act_74, e_Life_act_82, e_Life_act_102, e_Life_act_109, ah hh, hw]
  have hcall : CV (d + 5) 205 [12, h] s fun _ t => ActP h s r t := by
    apply c_Life_strikeLast
    by_cases e5 : s h 5 = 0
    · have hp : ActP h s r (mset s 12 1 (s 12 1 + 1)) := by
        refine ⟨⟨fun c i hc => by rw [mset_ne (by omega)], Cm_1 (j0 := 1) (by omega) (fun j hj => by rw [mset_ne (by omega)]) (mset_eq rfl rfl) hC⟩, fun d' u m hu hc => ?_⟩
        obtain ⟨c1, c2, c3, c4, c5, c6, c7⟩ := hc
        have y0 := hd u hu
        have x4 : u 138 4 = 0 := by have := (HRu_c hu).2; omega
        have q := q_hushes_no (d' + 7) u (-1) (by omega)
        have q0 := q_counts0 (d' + 8) 2 u
        have hpost : ActR h (mset s 12 1 (s 12 1 + 1)) u m 0 u := by
          refine ⟨⟨Or.inl rfl, ⟨?_, ?_, ?_, ?_, ?_, ?_, ?_⟩, fun c i _ _ _ _ _ => rfl⟩, HRu_cl (fun c i hc => mset_ne (by omega)) hu⟩
          · rw [mset_ne (by omega)]; exact c1
          · rw [mset_eq rfl rfl]; omega
          · rw [mset_ne (by omega)]; exact c3
          · rw [mset_ne (by omega)]; exact c4
          · rw [mset_ne (by omega)]; exact c5
          · rw [mset_ne (by omega)]; exact c6
          · rw [mset_ne (by omega)]; exact c7
        apply c_R_does
        simp (disch := first | assumption | omega) only [rn, wk, al, wr_e, td_e, tm_e, mset_eq, mset_ne, if_pos, if_neg, Int.reduceAdd, Int.reduceSub, Int.reduceMul, Int.reduceNeg, Int.reduceLT, Int.reduceLE, Int.reduceEq, Int.cast_ofNat_Int, eq_self, and_true, true_and, ite_self, true_or, or_true, false_or, or_false, and_false, false_and, not_true_eq_false, not_false_eq_true, if_true, if_false, e_R_does_0, e_R_does_60, e_R_does_83, e_R_does_84, e_R_does_88, e_R_does_106, e_R_does_121, e_R_does_126, e_R_does_131, y0, x4, q, q0]
        exact hpost
      simp (disch := first | assumption | omega) only [rn, wk, al, wr_e, td_e, tm_e, mset_eq, mset_ne, if_pos, if_neg, Int.reduceAdd, Int.reduceSub, Int.reduceMul, Int.reduceNeg, Int.reduceLT, Int.reduceLE, Int.reduceEq, Int.cast_ofNat_Int, eq_self, and_true, true_and, ite_self, true_or, or_true, false_or, or_false, and_false, false_and, not_true_eq_false, not_false_eq_true, if_true, if_false, e_Life_strikeLast_0, e_Life_strikeLast_30, e_Life_strikeLast_40, e5]
      exact hp
    · simp (disch := first | assumption | omega) only [rn, wk, al, wr_e, td_e, tm_e, mset_eq, mset_ne, if_pos, if_neg, Int.reduceAdd, Int.reduceSub, Int.reduceMul, Int.reduceNeg, Int.reduceLT, Int.reduceLE, Int.reduceEq, Int.cast_ofNat_Int, eq_self, and_true, true_and, ite_self, true_or, or_true, false_or, or_false, and_false, false_and, not_true_eq_false, not_false_eq_true, if_true, if_false, e_Life_strikeLast_0, e_Life_strikeLast_30, e_Life_strikeLast_40]
      refine EV_call (CV_mono (a_hush (d + 3) hh s hV (by omega)) ?_)
      rintro r2 t ⟨t1, t2⟩
      have g3 : t 12 3 = s 12 3 := t1 _ _ (by omega)
      have hp : ActP h s r (mset t 12 3 (s 12 3 + 1)) := by
        refine ⟨⟨fun c i hc => by rw [mset_ne (by omega)]; exact t1 c i (by omega), Cm_1 (j0 := 3) (by omega) (fun j hj => by rw [mset_ne (by omega)]; exact t1 _ _ (by omega)) (mset_eq rfl rfl) hC⟩, fun d' u m hu hc => ?_⟩
        obtain ⟨c1, c2, c3, c4, c5, c6, c7⟩ := hc
        have y0 := hd u hu
        have x4 : u 138 4 = s h 5 := by have := (HRu_c hu).2; omega
        apply c_R_does
        simp (disch := first | assumption | omega) only [rn, wk, al, wr_e, td_e, tm_e, mset_eq, mset_ne, if_pos, if_neg, Int.reduceAdd, Int.reduceSub, Int.reduceMul, Int.reduceNeg, Int.reduceLT, Int.reduceLE, Int.reduceEq, Int.cast_ofNat_Int, eq_self, and_true, true_and, ite_self, true_or, or_true, false_or, or_false, and_false, false_and, not_true_eq_false, not_false_eq_true, if_true, if_false, e_R_does_0, e_R_does_60, e_R_does_83, e_R_does_84, e_R_does_88, e_R_does_106, e_R_does_121, e_R_does_126, e_R_does_131, y0, x4]
        refine EV_call (CV_mono (t2 (d' + 7) u hu) ?_)
        rintro r' w ⟨⟨w1, w2⟩, w3⟩
        subst w1
        have G : ∀ c i, c = 153 ∨ (c = 137 ∧ i > 40) → w c i = u c i := fun c i hc => w2 c i (by omega) (by omega) (by omega) (by omega)
        have g2 : w 153 2 = u 153 2 := G _ _ (by omega)
        have q := q_counts1 (d' + 8) 2 w (by omega) (by omega)
        have T : ∀ j, t 12 j = s 12 j := fun j => t1 _ _ (by omega)
        have hpost : ActR h (mset t 12 3 (s 12 3 + 1)) u m 1 (mset w 153 2 (w 153 2 + 1)) := by
          refine ⟨⟨Or.inr rfl, ⟨?_, ?_, ?_, ?_, ?_, ?_, ?_⟩, fun c i a1 a2 a3 a4 a5 => by rw [mset_ne (by omega)]; exact w2 c i a1 a2 (by omega) a4⟩, HRu_cl (fun c i hc => mset_ne (by omega)) (HRu_rf (fun i => mset_ne (by omega)) (fun i => mset_ne (by omega)) w3)⟩
          · rw [mset_ne (by omega), mset_ne (by omega), G _ _ (by omega), T]; exact c1
          · rw [mset_ne (by omega), T]; omega
          · rw [mset_ne (by omega), mset_ne (by omega), G _ _ (by omega), T]; exact c3
          · rw [mset_eq rfl rfl, mset_eq rfl rfl, g2, c4]
          · rw [mset_ne (by omega), mset_ne (by omega), G _ _ (by omega), T]; exact c5
          · rw [mset_ne (by omega), mset_ne (by omega), G _ _ (by omega), T]; exact c6
          · rw [mset_ne (by omega), mset_ne (by omega), G _ _ (by omega), T]; exact c7
        simp (disch := first | assumption | omega) only [rn, wk, al, wr_e, td_e, tm_e, mset_eq, mset_ne, if_pos, if_neg, Int.reduceAdd, Int.reduceSub, Int.reduceMul, Int.reduceNeg, Int.reduceLT, Int.reduceLE, Int.reduceEq, Int.cast_ofNat_Int, eq_self, and_true, true_and, ite_self, true_or, or_true, false_or, or_false, and_false, false_and, not_true_eq_false, not_false_eq_true, if_true, if_false, e_R_does_0, e_R_does_60, e_R_does_83, e_R_does_84, e_R_does_88, e_R_does_106, e_R_does_121, e_R_does_126, e_R_does_131, q]
        exact hpost
      simp (disch := first | assumption | omega) only [rn, wk, al, wr_e, td_e, tm_e, mset_eq, mset_ne, if_pos, if_neg, Int.reduceAdd, Int.reduceSub, Int.reduceMul, Int.reduceNeg, Int.reduceLT, Int.reduceLE, Int.reduceEq, Int.cast_ofNat_Int, eq_self, and_true, true_and, ite_self, true_or, or_true, false_or, or_false, and_false, false_and, not_true_eq_false, not_false_eq_true, if_true, if_false, e_Life_strikeLast_0, e_Life_strikeLast_30, e_Life_strikeLast_40, g3]
      exact hp
  refine EV_call (CV_mono hcall ?_)
  rintro r2 t ht
  simp (disch := first | assumption | omega) only [rn, wk, al, wr_e, td_e, tm_e, mset_eq, mset_ne, if_pos, if_neg, Int.reduceAdd, Int.reduceSub, Int.reduceMul, Int.reduceNeg, Int.reduceLT, Int.reduceLE, Int.reduceEq, Int.cast_ofNat_Int, eq_self, and_true, true_and, ite_self, true_or, or_true, false_or, or_false, and_false, false_and, not_true_eq_false, not_false_eq_true, if_true, if_false, e_Life_act_0, e_Life_act_40, e_Life_act_66, e_Life_act_74, e_Life_act_82, e_Life_act_102, e_Life_act_109]
  exact ht
theorem act_walk (d : Nat) {h : Int} (hh : isH h) (s : Mem) (hV : Vh h s) (hC : Cb s) (h1 : s (h + 12) 0 = 1) (r : Int) (hr : 0 ≤ r ∧ r < s (h + 12) 2) (hw : s (h + 12 + 1) r = 12) : CV (d + 6) 201 [12, h, h + 12, r] s fun _ t => ActP h s r t := by
  have hu37 : 37 ≤ h ∧ h ≤ 117 := by unfold isH at hh; omega
  obtain ⟨b1, b2, b3, b4⟩ := Cb_4 hC
  have hV' := hV
  obtain ⟨v, hv⟩ := hV'
  obtain ⟨v1, v2, -⟩ := HRu_v hv h1
  obtain ⟨c0, -⟩ := HRu_c hv
  have a13 : h + 12 + 1 = h + 13 := by omega
  have a15 : h + 12 + 3 = h + 15 := by omega
  have a16 : h + 12 + 4 = h + 16 := by omega
  have hvr := VR_w (v2 r hr) hw
  have hw' : win s h 13 r = 12 := by rw [a13] at hw; exact hw
  obtain ⟨c, hc_⟩ : ∃ c, c = s (h + 15) r := ⟨_, rfl⟩
  obtain ⟨p, hp_⟩ : ∃ p, p = s (h + 16) r := ⟨_, rfl⟩
  rw [← hc_, ← hp_] at hvr
  have w3' : s (h + 12 + 3) r = c := by rw [a15]; exact hc_.symm
  have w4' : s (h + 12 + 4) r = p := by rw [a16]; exact hp_.symm
  have z1 : 500 + 6 * r + 1 = 501 + 6 * r := by omega
  have z2 : 500 + 6 * r + 2 = 502 + 6 * r := by omega
  have hd : ∀ u, HRu h s u → u 138 (500 + 6 * r) = 12 ∧ u 138 (501 + 6 * r) = c ∧ u 138 (502 + 6 * r) = p := fun u hu => by
    obtain ⟨y0, y1, y2⟩ := ((HRu_r hu h1).2 r hr).2.1 hw'
    exact ⟨y0, by rw [hc_]; exact y1, by rw [hp_]; exact y2⟩
  apply c_Life_act
  simp (disch := first | assumption | omega) only [rn, wk, al, wr_e, td_e, tm_e, mset_eq, mset_ne, if_pos, if_neg, Int.reduceAdd, Int.reduceSub, Int.reduceMul, Int.reduceNeg, Int.reduceLT, Int.reduceLE, Int.reduceEq, Int.cast_ofNat_Int, eq_self, and_true, true_and, ite_self, true_or, or_true, false_or, or_false, and_false, false_and, not_true_eq_false, not_false_eq_true, if_true, if_false, e_Life_act_0, e_Life_act_40, e_Life_act_66, e_Life_act_74, e_Life_act_82, e_Life_act_102, e_Life_act_109, ah hh, hw, w3', w4']
  have hcall : CV (d + 5) 206 [12, h, c, p] s fun _ t => ActP h s r t := by
    apply c_Life_go
    by_cases e : s (h + 6) c = p
    · have hp : ActP h s r (mset s 12 1 (s 12 1 + 1)) := by
        refine ⟨⟨fun c i hc => by rw [mset_ne (by omega)], Cm_1 (j0 := 1) (by omega) (fun j hj => by rw [mset_ne (by omega)]) (mset_eq rfl rfl) hC⟩, fun d' u m hu hc => ?_⟩
        obtain ⟨c1, c2, c3, c4, c5, c6, c7⟩ := hc
        obtain ⟨y0, y1, y2⟩ := hd u hu
        apply c_R_does
        simp (disch := first | assumption | omega) only [rn, wk, al, wr_e, td_e, tm_e, mset_eq, mset_ne, if_pos, if_neg, Int.reduceAdd, Int.reduceSub, Int.reduceMul, Int.reduceNeg, Int.reduceLT, Int.reduceLE, Int.reduceEq, Int.cast_ofNat_Int, eq_self, and_true, true_and, ite_self, true_or, or_true, false_or, or_false, and_false, false_and, not_true_eq_false, not_false_eq_true, if_true, if_false, e_R_does_0, e_R_does_60, e_R_does_83, e_R_does_84, e_R_does_88, e_R_does_106, e_R_does_121, e_R_does_126, e_R_does_131, z1, z2, y0, y1, y2, q_callerRow]
        refine EV_call (CV_mono (a_walk hh s c p hvr.1 hvr.2 (d' + 8) u hu).2 ?_)
        rintro r' w ⟨⟨w1, w2⟩, w3⟩
        have e0 : r' = 0 := by
          rcases w1 with ⟨-, k⟩ | ⟨k, -⟩
          · exact k
          · exact absurd e k
        subst e0
        rw [mset_id e] at w3
        have q0 := q_counts0 (d' + 8) 3 w
        have G : ∀ c i, c = 153 ∨ (c = 137 ∧ i > 40) → w c i = u c i := fun c i hc => w2 c i (by omega) (by omega) (by omega) (by omega)
        have hpost : ActR h (mset s 12 1 (s 12 1 + 1)) u m 0 w := by
          refine ⟨⟨Or.inl rfl, ⟨?_, ?_, ?_, ?_, ?_, ?_, ?_⟩, fun c i a1 a2 a3 a4 a5 => w2 c i a1 a2 (by omega) a4⟩, HRu_cl (fun c i hc => mset_ne (by omega)) w3⟩
          · rw [mset_ne (by omega), G _ _ (by omega)]; exact c1
          · rw [mset_eq rfl rfl]; omega
          · rw [mset_ne (by omega), G _ _ (by omega)]; exact c3
          · rw [mset_ne (by omega), G _ _ (by omega)]; exact c4
          · rw [mset_ne (by omega), G _ _ (by omega)]; exact c5
          · rw [mset_ne (by omega), G _ _ (by omega)]; exact c6
          · rw [mset_ne (by omega), G _ _ (by omega)]; exact c7
        simp (disch := first | assumption | omega) only [rn, wk, al, wr_e, td_e, tm_e, mset_eq, mset_ne, if_pos, if_neg, Int.reduceAdd, Int.reduceSub, Int.reduceMul, Int.reduceNeg, Int.reduceLT, Int.reduceLE, Int.reduceEq, Int.cast_ofNat_Int, eq_self, and_true, true_and, ite_self, true_or, or_true, false_or, or_false, and_false, false_and, not_true_eq_false, not_false_eq_true, if_true, if_false, e_R_does_0, e_R_does_60, e_R_does_83, e_R_does_84, e_R_does_88, e_R_does_106, e_R_does_121, e_R_does_126, e_R_does_131, q0]
        exact hpost
      simp (disch := first | assumption | omega) only [rn, wk, al, wr_e, td_e, tm_e, mset_eq, mset_ne, if_pos, if_neg, Int.reduceAdd, Int.reduceSub, Int.reduceMul, Int.reduceNeg, Int.reduceLT, Int.reduceLE, Int.reduceEq, Int.cast_ofNat_Int, eq_self, and_true, true_and, ite_self, true_or, or_true, false_or, or_false, and_false, false_and, not_true_eq_false, not_false_eq_true, if_true, if_false, e_Life_go_0, e_Life_go_23, e_Life_go_40, ah hh, e]
      exact hp
    · have hp : ActP h s r (mset (mset s (h + 6) c p) 12 4 (s 12 4 + 1)) := by
        refine ⟨⟨fun c i hc => by rw [mset_ne (by omega), mset_ne (by omega)], Cm_1 (j0 := 4) (by omega) (fun j hj => by rw [mset_ne (by omega), mset_ne (by omega)]) (mset_eq rfl rfl) hC⟩, fun d' u m hu hc => ?_⟩
        obtain ⟨c1, c2, c3, c4, c5, c6, c7⟩ := hc
        obtain ⟨y0, y1, y2⟩ := hd u hu
        apply c_R_does
        simp (disch := first | assumption | omega) only [rn, wk, al, wr_e, td_e, tm_e, mset_eq, mset_ne, if_pos, if_neg, Int.reduceAdd, Int.reduceSub, Int.reduceMul, Int.reduceNeg, Int.reduceLT, Int.reduceLE, Int.reduceEq, Int.cast_ofNat_Int, eq_self, and_true, true_and, ite_self, true_or, or_true, false_or, or_false, and_false, false_and, not_true_eq_false, not_false_eq_true, if_true, if_false, e_R_does_0, e_R_does_60, e_R_does_83, e_R_does_84, e_R_does_88, e_R_does_106, e_R_does_121, e_R_does_126, e_R_does_131, z1, z2, y0, y1, y2, q_callerRow]
        refine EV_call (CV_mono (a_walk hh s c p hvr.1 hvr.2 (d' + 8) u hu).2 ?_)
        rintro r' w ⟨⟨w1, w2⟩, w3⟩
        have e0 : r' = 1 := by
          rcases w1 with ⟨k, -⟩ | ⟨-, k⟩
          · exact absurd k e
          · exact k
        subst e0
        have G : ∀ c i, c = 153 ∨ (c = 137 ∧ i > 40) → w c i = u c i := fun c i hc => w2 c i (by omega) (by omega) (by omega) (by omega)
        have g3 : w 153 3 = u 153 3 := G _ _ (by omega)
        have q := q_counts1 (d' + 8) 3 w (by omega) (by omega)
        have T : ∀ j, mset s (h + 6) c p 12 j = s 12 j := fun j => mset_ne (by omega)
        have hpost : ActR h (mset (mset s (h + 6) c p) 12 4 (s 12 4 + 1)) u m 1 (mset w 153 3 (w 153 3 + 1)) := by
          refine ⟨⟨Or.inr rfl, ⟨?_, ?_, ?_, ?_, ?_, ?_, ?_⟩, fun c i a1 a2 a3 a4 a5 => by rw [mset_ne (by omega)]; exact w2 c i a1 a2 (by omega) a4⟩, HRu_cl (fun c i hc => mset_ne (by omega)) (HRu_rf (fun i => mset_ne (by omega)) (fun i => mset_ne (by omega)) w3)⟩
          · rw [mset_ne (by omega), mset_ne (by omega), G _ _ (by omega), T]; exact c1
          · rw [mset_ne (by omega), T]; omega
          · rw [mset_ne (by omega), mset_ne (by omega), G _ _ (by omega), T]; exact c3
          · rw [mset_ne (by omega), mset_ne (by omega), G _ _ (by omega), T]; exact c4
          · rw [mset_eq rfl rfl, mset_eq rfl rfl, g3, c5]
          · rw [mset_ne (by omega), mset_ne (by omega), G _ _ (by omega), T]; exact c6
          · rw [mset_ne (by omega), mset_ne (by omega), G _ _ (by omega), T]; exact c7
        simp (disch := first | assumption | omega) only [rn, wk, al, wr_e, td_e, tm_e, mset_eq, mset_ne, if_pos, if_neg, Int.reduceAdd, Int.reduceSub, Int.reduceMul, Int.reduceNeg, Int.reduceLT, Int.reduceLE, Int.reduceEq, Int.cast_ofNat_Int, eq_self, and_true, true_and, ite_self, true_or, or_true, false_or, or_false, and_false, false_and, not_true_eq_false, not_false_eq_true, if_true, if_false, e_R_does_0, e_R_does_60, e_R_does_83, e_R_does_84, e_R_does_88, e_R_does_106, e_R_does_121, e_R_does_126, e_R_does_131, q]
        exact hpost
      simp (disch := first | assumption | omega) only [rn, wk, al, wr_e, td_e, tm_e, mset_eq, mset_ne, if_pos, if_neg, Int.reduceAdd, Int.reduceSub, Int.reduceMul, Int.reduceNeg, Int.reduceLT, Int.reduceLE, Int.reduceEq, Int.cast_ofNat_Int, eq_self, and_true, true_and, ite_self, true_or, or_true, false_or, or_false, and_false, false_and, not_true_eq_false, not_false_eq_true, if_true, if_false, e_Life_go_0, e_Life_go_23, e_Life_go_40, ah hh]
      exact hp
  refine EV_call (CV_mono hcall ?_)
  rintro r2 t ht
  simp (disch := first | assumption | omega) only [rn, wk, al, wr_e, td_e, tm_e, mset_eq, mset_ne, if_pos, if_neg, Int.reduceAdd, Int.reduceSub, Int.reduceMul, Int.reduceNeg, Int.reduceLT, Int.reduceLE, Int.reduceEq, Int.cast_ofNat_Int, eq_self, and_true, true_and, ite_self, true_or, or_true, false_or, or_false, and_false, false_and, not_true_eq_false, not_false_eq_true, if_true, if_false, e_Life_act_0, e_Life_act_40, e_Life_act_66, e_Life_act_74, e_Life_act_82, e_Life_act_102, e_Life_act_109]
  exact ht
theorem act_rec (d : Nat) {h : Int} (hh : isH h) (s : Mem) (hV : Vh h s) (hC : Cb s) (h1 : s (h + 12) 0 = 1) (r : Int) (hr : 0 ≤ r ∧ r < s (h + 12) 2) (hw : s (h + 12 + 1) r = 13) : CV (d + 6) 201 [12, h, h + 12, r] s fun _ t => ActP h s r t := by
  have hu37 : 37 ≤ h ∧ h ≤ 117 := by unfold isH at hh; omega
  obtain ⟨v, hv⟩ := id hV
  obtain ⟨v1, v2, -⟩ := HRu_v hv h1
  have a13 : h + 12 + 1 = h + 13 := by omega
  have hw' : win s h 13 r = 13 := by rw [a13] at hw; exact hw
  have hd : ∀ u, HRu h s u → u 138 (500 + 6 * r) = 13 := fun u hu => ((HRu_r hu h1).2 r hr).2.2.2.1 hw'
  apply c_Life_act
  simp (disch := first | assumption | omega) only [rn, wk, al, wr_e, td_e, tm_e, mset_eq, mset_ne, if_pos, if_neg, Int.reduceAdd, Int.reduceSub, Int.reduceMul, Int.reduceNeg, Int.reduceLT, Int.reduceLE, Int.reduceEq, Int.cast_ofNat_Int, eq_self, and_true, true_and, ite_self, true_or, or_true, false_or, or_false, and_false, false_and, not_true_eq_false, not_false_eq_true, if_true, if_false, e_Life_act_0, e_Life_act_40, e_Life_act_66, e_Life_act_74, e_Life_act_82, e_Life_act_102, e_Life_act_109, ah hh, hw]
  refine EV_call (CV_mono (a_rec d hh s hV) ?_)
  rintro r2 t ⟨t1, t2⟩
  have T : ∀ j, t 12 j = s 12 j := fun j => t1 _ _ (by omega)
  have hp : ActP h s r t := by
    refine ⟨⟨fun c i hc => t1 c i (by omega), T 0, T 5, by rw [T]; exact hC.1, fun j a b => by rw [T]; omega⟩, fun d' u m hu hc => ?_⟩
    obtain ⟨c1, c2, c3, c4, c5, c6, c7⟩ := hc
    have y0 := hd u hu
    have hrec : CV (d' + 9) 360 [137] u (ActR h t u m) := by
      apply c_R_recordsIt
      simp (disch := first | assumption | omega) only [rn, wk, al, wr_e, td_e, tm_e, mset_eq, mset_ne, if_pos, if_neg, Int.reduceAdd, Int.reduceSub, Int.reduceMul, Int.reduceNeg, Int.reduceLT, Int.reduceLE, Int.reduceEq, Int.cast_ofNat_Int, eq_self, and_true, true_and, ite_self, true_or, or_true, false_or, or_false, and_false, false_and, not_true_eq_false, not_false_eq_true, if_true, if_false, e_R_recordsIt_0]
      refine EV_call (CV_mono (t2 d' u hu) ?_)
      rintro r' w ⟨w2, w3⟩
      have G : ∀ c i, c = 153 ∨ (c = 137 ∧ i > 40) → w c i = u c i := fun c i hc => w2 c i (by omega) (by omega) (by omega) (by omega)
      have hpost : ActR h t u m 1 w := by
        refine ⟨⟨Or.inr rfl, ⟨?_, ?_, ?_, ?_, ?_, ?_, ?_⟩, fun c i a1 a2 a3 a4 a5 => w2 c i a1 a2 (by omega) a4⟩, w3⟩
        · rw [G _ _ (by omega), T]; exact c1
        · rw [T]; omega
        · rw [G _ _ (by omega), T]; exact c3
        · rw [G _ _ (by omega), T]; exact c4
        · rw [G _ _ (by omega), T]; exact c5
        · rw [G _ _ (by omega), T]; exact c6
        · rw [G _ _ (by omega), T]; exact c7
      simp (disch := first | assumption | omega) only [rn, wk, al, wr_e, td_e, tm_e, mset_eq, mset_ne, if_pos, if_neg, Int.reduceAdd, Int.reduceSub, Int.reduceMul, Int.reduceNeg, Int.reduceLT, Int.reduceLE, Int.reduceEq, Int.cast_ofNat_Int, eq_self, and_true, true_and, ite_self, true_or, or_true, false_or, or_false, and_false, false_and, not_true_eq_false, not_false_eq_true, if_true, if_false, e_R_recordsIt_0]
      exact hpost
    apply c_R_does
    simp (disch := first | assumption | omega) only [rn, wk, al, wr_e, td_e, tm_e, mset_eq, mset_ne, if_pos, if_neg, Int.reduceAdd, Int.reduceSub, Int.reduceMul, Int.reduceNeg, Int.reduceLT, Int.reduceLE, Int.reduceEq, Int.cast_ofNat_Int, eq_self, and_true, true_and, ite_self, true_or, or_true, false_or, or_false, and_false, false_and, not_true_eq_false, not_false_eq_true, if_true, if_false, e_R_does_0, e_R_does_60, e_R_does_83, e_R_does_84, e_R_does_88, e_R_does_106, e_R_does_121, e_R_does_126, e_R_does_131, y0]
    refine EV_call (CV_mono hrec ?_)
    rintro r' w hw2
    have h01 := hw2.1.1
    simp (disch := first | assumption | omega) only [rn, wk, al, wr_e, td_e, tm_e, mset_eq, mset_ne, if_pos, if_neg, Int.reduceAdd, Int.reduceSub, Int.reduceMul, Int.reduceNeg, Int.reduceLT, Int.reduceLE, Int.reduceEq, Int.cast_ofNat_Int, eq_self, and_true, true_and, ite_self, true_or, or_true, false_or, or_false, and_false, false_and, not_true_eq_false, not_false_eq_true, if_true, if_false, e_R_does_0, e_R_does_60, e_R_does_83, e_R_does_84, e_R_does_88, e_R_does_106, e_R_does_121, e_R_does_126, e_R_does_131]
    exact hw2
  simp (disch := first | assumption | omega) only [rn, wk, al, wr_e, td_e, tm_e, mset_eq, mset_ne, if_pos, if_neg, Int.reduceAdd, Int.reduceSub, Int.reduceMul, Int.reduceNeg, Int.reduceLT, Int.reduceLE, Int.reduceEq, Int.cast_ofNat_Int, eq_self, and_true, true_and, ite_self, true_or, or_true, false_or, or_false, and_false, false_and, not_true_eq_false, not_false_eq_true, if_true, if_false, e_Life_act_0, e_Life_act_40, e_Life_act_66, e_Life_act_74, e_Life_act_82, e_Life_act_102, e_Life_act_109]
  exact hp
theorem act_all (d : Nat) {h : Int} (hh : isH h) (s : Mem) (hV : Vh h s) (hC : Cb s) (h1 : s (h + 12) 0 = 1) (r : Int) (hr : 0 ≤ r ∧ r < s (h + 12) 2) (hw : s (h + 12 + 1) r = 10 ∨ s (h + 12 + 1) r = 11 ∨ s (h + 12 + 1) r = 12 ∨ s (h + 12 + 1) r = 13 ∨ s (h + 12 + 1) r = 14) : CV (d + 6) 201 [12, h, h + 12, r] s fun _ t => ActP h s r t := by
  rcases hw with k | k | k | k | k
  · exact act_say d hh s hV hC h1 r hr k
  · exact act_hush d hh s hV hC h1 r hr k
  · exact act_walk d hh s hV hC h1 r hr k
  · exact act_rec d hh s hV hC h1 r hr k
  · exact act_any d hh s hV hC h1 r hr k
