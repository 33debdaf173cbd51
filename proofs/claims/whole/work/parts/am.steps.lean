/-! ===== H2: live, loops and acts ===== -/
theorem lp_em (d' : Nat) (sd r : Int) (F : Int → Mem → Prop) (hr : 0 ≤ r ∧ r < 60) : ∀ (m : Nat) (u : Mem), u 152 r = m → m ≤ 99 → r + 1 < u 138 7 → u 138 (500 + 6 * (r + 1)) = 17 → u 138 (504 + 6 * (r + 1)) = r → u 138 (500 + 6 * r) = 16 → (∀ u1, (∀ c i, ¬ (c = 152 ∧ i = r) → u1 c i = u c i) → GoB d' sd (r + 2) u1 F) → GoB d' sd (r + 1) u F := by
  have z4 : 500 + 6 * (r + 1) + 4 = 504 + 6 * (r + 1) := by omega
  have z2 : r + 1 + 1 = r + 2 := by omega
  intro m
  induction m with
  | zero =>
    intro u hm h9 h7 h1 h2 h3 K f0 z z'
    have hm0 : u 152 r = 0 := hm
    have hk := K (mset u 152 r 0) (fun c i hc => mset_ne (by omega)) f0 r 0
    rw [e_R_behindEnds_2]
    simp (disch := first | assumption | omega) only [rn, wk, al, wr_e, td_e, tm_e, mset_eq, mset_ne, if_pos, if_neg, Int.reduceAdd, Int.reduceSub, Int.reduceMul, Int.reduceNeg, Int.reduceLT, Int.reduceLE, Int.reduceEq, Int.cast_ofNat_Int, eq_self, and_true, true_and, ite_self, true_or, or_true, false_or, or_false, and_false, false_and, not_true_eq_false, not_false_eq_true, if_true, if_false, e_R_behindEnds_0, e_R_behindEnds_78, e_R_behindEnds_79, e_R_behindEnds_97, e_R_behindEnds_98, e_R_behindEnds_111, e_R_behindEnds_114, e_R_behindEnds_118, h1, z4, h2, h3, hm0, z2]
    exact hk
  | succ m ih =>
    intro u hm h9 h7 h1 h2 h3 K f0 z z'
    have hm1 : u 152 r = (m : Int) + 1 := by rw [hm]; omega
    have em : (m : Int) + 1 - 1 = m := by omega
    have hk := ih (mset u 152 r m) (mset_eq rfl rfl) (by omega) (by rw [mset_ne (by omega)]; exact h7) (by rw [mset_ne (by omega)]; exact h1) (by rw [mset_ne (by omega)]; exact h2) (by rw [mset_ne (by omega)]; exact h3) (fun u1 hu1 => K u1 (fun c i hc => by rw [hu1 c i hc, mset_ne (by omega)])) f0 r 1
    rw [e_R_behindEnds_2]
    simp (disch := first | assumption | omega) only [rn, wk, al, wr_e, td_e, tm_e, mset_eq, mset_ne, if_pos, if_neg, Int.reduceAdd, Int.reduceSub, Int.reduceMul, Int.reduceNeg, Int.reduceLT, Int.reduceLE, Int.reduceEq, Int.cast_ofNat_Int, eq_self, and_true, true_and, ite_self, true_or, or_true, false_or, or_false, and_false, false_and, not_true_eq_false, not_false_eq_true, if_true, if_false, e_R_behindEnds_0, e_R_behindEnds_78, e_R_behindEnds_79, e_R_behindEnds_97, e_R_behindEnds_98, e_R_behindEnds_111, e_R_behindEnds_114, e_R_behindEnds_118, h1, z4, h2, h3, hm1, em]
    exact hk
theorem t_loop (d d' : Nat) (sd : Int) {h : Int} (hh : isH h) (s s0 : Mem) (hs0 : s0 = mset s 12 0 (s 12 0 + 1)) (r : Int) (hC : CI_ h s r) (hr : r < s (h + 12) 2) (hw : s (h + 13) r = 18) (h300 : s 12 0 < 300) : CV (d + 6) 198 [12, h, h + 12, r] s0 fun q s1 => Stp_ d' sd h s r q s1 := by
  have hu37 : 37 ≤ h ∧ h ≤ 117 := by unfold isH at hh; omega
  obtain ⟨i1, i2, i3, i4, i5, i6, i7, i8⟩ := hC
  obtain ⟨sf, s00, fc, sh⟩ := s0_f hh hs0
  obtain ⟨v, hv⟩ := id i1
  obtain ⟨v1, v2, v3⟩ := HRu_v hv i2
  have a13 : h + 12 + 1 = h + 13 := by omega
  have a18 : h + 12 + 6 = h + 18 := by omega
  have a19 : h + 12 + 7 = h + 19 := by omega
  obtain ⟨⟨g1, g2, g3, g4⟩, g5, g6⟩ := VR_18 (v2 r ⟨i3.1, hr⟩) hw
  obtain ⟨L, hL⟩ : ∃ L, L = s (h + 19) r := ⟨_, rfl⟩
  obtain ⟨k, hk_⟩ : ∃ k, k = s (h + 18) r := ⟨_, rfl⟩
  rw [← hL] at g1 g2 g3 g4 g5
  rw [← hk_] at g6
  have w13 : s0 (h + 12 + 1) r = 18 := by rw [a13, sf _ _ (by omega)]; exact hw
  have w18 : s0 (h + 12 + 6) r = k := by rw [a18, sf _ _ (by omega)]; exact hk_.symm
  have w19 : s0 (h + 12 + 7) r = L := by rw [a19, sf _ _ (by omega)]; exact hL.symm
  obtain ⟨s1, hs1⟩ : ∃ s1, s1 = mset s0 13 r k := ⟨_, rfl⟩
  have tf : ∀ c i, ¬ (c = 12 ∧ i = 0) → ¬ (c = 13 ∧ i = r) → s1 c i = s c i := fun c i hc hd => by rw [hs1, mset_ne (by omega)]; exact sf c i hc
  have t00 : s1 12 0 = s 12 0 + 1 := by rw [hs1, mset_ne (by omega)]; exact s00
  have t13 : s1 13 r = k := by rw [hs1, mset_eq rfl rfl]
  have fc1 : Fcl h s s1 := fun c i hc => tf c i (by omega) (by omega)
  have sh1 : ∀ u, HRu h s u → HRu h s1 u := fun u hu => HRu_cl (fun c i hc => tf c i (by omega) (by omega)) hu
  have loopO : ∀ n, Opn h s (r + 1) n → n = r ∨ Opn h s r n := by
    rintro n ⟨o1, o2, o3⟩
    by_cases e : n = r
    · exact Or.inl e
    · exact Or.inr ⟨by omega, o2, by omega⟩
  have skipO : L = r + 1 → ∀ n, Opn h s (r + 2) n → Opn h s r n := by
    rintro eL n ⟨o1, o2, o3⟩
    have e1 : n ≠ r := fun e => by rw [e, ← hL] at o3; omega
    have e2 : n ≠ r + 1 := fun e => by rw [e, ← eL] at o2; omega
    exact ⟨by omega, o2, by omega⟩
  have key : ∀ q, (q = r + 2 ∧ L = r + 1) ∨ (q = r + 1 ∧ L ≠ r + 1) → Stp_ d' sd h s r q s1 := by
    intro q hq
    have qO : ∀ n, Opn h s q n → (n = r ∧ q = r + 1) ∨ (Opn h s r n ∧ n ≠ r) := fun n hn => by
      rcases hq with ⟨e, e'⟩ | ⟨e, -⟩
      · rw [e] at hn
        have := skipO e' n hn
        exact Or.inr ⟨this, by have := this.1; omega⟩
      · rw [e] at hn
        rcases loopO n hn with k | k
        · exact Or.inl ⟨k, e⟩
        · exact Or.inr ⟨k, by have := k.1; omega⟩
    refine ⟨fc1, ⟨⟨v, sh1 v hv⟩, by rw [tf _ _ (by omega) (by omega)]; exact i2, by rw [tf _ _ (by omega) (by omega)]; omega, by rw [t00]; omega, fun j a c => by rw [tf _ _ (by omega) (by omega), t00]; have := i5 j a c; omega, by rw [tf _ _ (by omega) (by omega)]; exact i6, fun n hn => ?_, ?_⟩, ?_, ?_⟩
    · rcases qO n ((Opn_congr fc1 hh).1 hn) with ⟨e, -⟩ | ⟨e, ne⟩
      · rw [e, t13]; exact g6
      · rw [tf _ _ (by omega) (by omega)]; exact i7 n e
    · rw [NE_congr fc1 hh]
      rintro ⟨k1, k2, k⟩
      rcases hq with ⟨e, e'⟩ | ⟨e, e'⟩
      · rw [show q - 1 = L by omega] at k; omega
      · rw [e] at k1; exact e' (g5 k1)
    · unfold pot
      rw [t00]
      split <;> split <;> omega
    · intro u0 u F hR K
      obtain ⟨hu, hc, hl, hf⟩ := hR
      obtain ⟨x7, xr⟩ := HRu_r hu i2
      obtain ⟨y0, y1, y4⟩ := (xr r ⟨i3.1, hr⟩).2.2.2.2.2.2.2.1 hw
      have y0' : u 138 (500 + 6 * r) = 16 := y0
      have y1' : u 138 (501 + 6 * r) = k := by rw [hk_]; exact y1
      obtain ⟨c1, c2, c3, c4, c5, c6, c7⟩ := hc
      have m0 := i5 1 (by omega) (by omega)
      obtain ⟨u', hu'⟩ : ∃ u', u' = mset u 137 42 (s 12 0 + 1) := ⟨_, rfl⟩
      have uf : ∀ c i, ¬ (c = 137 ∧ i = 42) → u' c i = u c i := fun c i hc => by rw [hu', mset_ne (by omega)]
      have u42 : u' 137 42 = s 12 0 + 1 := by rw [hu', mset_eq rfl rfl]
      refine rl_pre d' sd r u F (s 12 0) (by omega) (by omega) (by omega) (by omega) c1 (by omega) ?_
      rw [← hu', e_R_lives_92]
      have p0 : u' 138 (500 + 6 * r) = 16 := by rw [uf _ _ (by omega)]; exact y0'
      have p1 : u' 138 (501 + 6 * r) = k := by rw [uf _ _ (by omega)]; exact y1'
      have qd := q_does1 (d' + 9) r u' (by omega) (by omega)
      obtain ⟨y, hy⟩ : ∃ y, y = mset u' 153 0 (u' 153 0) := ⟨_, rfl⟩
      have hyu : y = u' := by rw [hy]; exact mset_id rfl
      have b0 : 0 ≤ u' 153 0 ∧ u' 153 0 ≤ 300 := by rw [uf _ _ (by omega)]; omega
      have z1 : 500 + 6 * r + 1 = 501 + 6 * r := by omega
      obtain ⟨w, hw_⟩ : ∃ w, w = mset u' 152 r (k - 1) := ⟨_, rfl⟩
      have wf : ∀ c i, ¬ (c = 137 ∧ i = 42) → ¬ (c = 152 ∧ i = r) → w c i = u c i := fun c i hc hd => by rw [hw_, mset_ne (by omega)]; exact uf c i hc
      have w42 : w 137 42 = s 12 0 + 1 := by rw [hw_, mset_ne (by omega)]; exact u42
      have w152 : w 152 r = k - 1 := by rw [hw_, mset_eq rfl rfl]
      have rel : ∀ u1, (∀ c i, ¬ (c = 152 ∧ i = r) → u1 c i = w c i) → (q = r + 1 → u1 152 r = k - 1) → Rel h u0 s1 u1 q := by
        intro u1 hu1 h152
        have vf : ∀ c i, ¬ (c = 137 ∧ i = 42) → ¬ (c = 152 ∧ i = r) → u1 c i = u c i := fun c i hc hd => by rw [hu1 c i hd]; exact wf c i hc hd
        refine ⟨sh1 u1 (HRu_rf (fun i => vf _ _ (by omega) (by omega)) (fun i => vf _ _ (by omega) (by omega)) hu), ⟨?_, ?_, ?_, ?_, ?_, ?_, ?_⟩, fun n hn => ?_, fun c i a1 a2 a3 a4 a5 a6 => by rw [vf c i (by omega) (by omega)]; exact hf c i a1 a2 a3 a4 a5 a6⟩
        · rw [hu1 _ _ (by omega), w42, t00]
        · rw [vf _ _ (by omega) (by omega), tf _ _ (by omega) (by omega)]; exact c2
        · rw [vf _ _ (by omega) (by omega), tf _ _ (by omega) (by omega)]; exact c3
        · rw [vf _ _ (by omega) (by omega), tf _ _ (by omega) (by omega)]; exact c4
        · rw [vf _ _ (by omega) (by omega), tf _ _ (by omega) (by omega)]; exact c5
        · rw [vf _ _ (by omega) (by omega), tf _ _ (by omega) (by omega)]; exact c6
        · rw [vf _ _ (by omega) (by omega), tf _ _ (by omega) (by omega)]; exact c7
        · rcases qO n ((Opn_congr fc1 hh).1 hn) with ⟨e, e'⟩ | ⟨e, ne⟩
          · rw [e, t13, h152 e']; omega
          · rw [tf _ _ (by omega) (by omega), vf _ _ (by omega) (by omega)]; exact hl n e
      have hgo : GoB d' sd (r + 1) w F := by
        rcases hq with ⟨e, e'⟩ | ⟨e, e'⟩
        · have xl := (xr (r + 1) (by omega)).2.2.2.2.2.2.2.2 (show s (h + 13) (r + 1) = 19 by rw [← e']; exact g3)
          have xl2 : u 138 (504 + 6 * (r + 1)) = r := by
            have : u 138 (504 + 6 * (r + 1)) = s (h + 19) (r + 1) := xl.2
            rw [this, ← e']; exact g4
          refine lp_em d' sd r F (by omega) (k - 1).toNat w (by rw [w152]; omega) (by omega) (by rw [wf _ _ (by omega) (by omega)]; omega) (by rw [wf _ _ (by omega) (by omega)]; exact xl.1) (by rw [wf _ _ (by omega) (by omega)]; exact xl2) (by rw [wf _ _ (by omega) (by omega)]; exact y0') (fun u1 hu1 => ?_)
          rw [← e]
          exact K u1 (rel u1 hu1 (fun hh => by omega))
        · rw [← e]
          exact K w (rel w (fun _ _ _ => rfl) (fun _ => w152))
      have hk := be_call d' sd (r + 1) w F hgo
      have wp : w 138 (500 + 6 * r) = 16 := by rw [wf _ _ (by omega) (by omega)]; exact y0'
      simp (disch := first | assumption | omega) only [rn, wk, al, wr_e, td_e, tm_e, mset_eq, mset_ne, if_pos, if_neg, Int.reduceAdd, Int.reduceSub, Int.reduceMul, Int.reduceNeg, Int.reduceLT, Int.reduceLE, Int.reduceEq, Int.cast_ofNat_Int, eq_self, and_true, true_and, ite_self, true_or, or_true, false_or, or_false, and_false, false_and, not_true_eq_false, not_false_eq_true, if_true, if_false, e_R_lives_0, e_R_lives_30, e_R_lives_61, e_R_lives_92, e_R_lives_111, e_R_lives_112, e_R_lives_141, e_R_lives_175, e_R_lives_178, e_R_lives_185, qd, Int.add_zero, ← hy, hyu, p0, z1, p1, ← hw_, wp]
      refine EV_call (CV_mono hk ?_)
      intro r2 y hy2
      have hz := hy2 (500 + 6 * r)
      simp (disch := first | assumption | omega) only [rn, wk, al, wr_e, td_e, tm_e, mset_eq, mset_ne, if_pos, if_neg, Int.reduceAdd, Int.reduceSub, Int.reduceMul, Int.reduceNeg, Int.reduceLT, Int.reduceLE, Int.reduceEq, Int.cast_ofNat_Int, eq_self, and_true, true_and, ite_self, true_or, or_true, false_or, or_false, and_false, false_and, not_true_eq_false, not_false_eq_true, if_true, if_false]
      exact hz
  apply c_Life_behindStep
  have z2 : r + 2 = r + 1 + 1 := by omega
  by_cases e : L = r + 1
  · have hp := key (r + 2) (Or.inl ⟨rfl, e⟩)
    have w19' : s1 (h + 12 + 7) r = r + 1 := by rw [hs1, mset_ne (by omega), w19]; exact e
    simp (disch := first | assumption | omega) only [rn, wk, al, wr_e, td_e, tm_e, mset_eq, mset_ne, if_pos, if_neg, Int.reduceAdd, Int.reduceSub, Int.reduceMul, Int.reduceNeg, Int.reduceLT, Int.reduceLE, Int.reduceEq, Int.cast_ofNat_Int, eq_self, and_true, true_and, ite_self, true_or, or_true, false_or, or_false, and_false, false_and, not_true_eq_false, not_false_eq_true, if_true, if_false, e_Life_behindStep_0, e_Life_behindStep_40, e_Life_behindStep_45, e_Life_behindStep_61, e_Life_behindStep_69, e_Life_behindStep_70, e_Life_behindStep_100, e_Life_behindStep_103, e_Life_behindStep_104, ah hh, w13, w18, ← hs1, w19']
    exact hp
  · have hp := key (r + 1) (Or.inr ⟨rfl, e⟩)
    have w19' : s1 (h + 12 + 7) r = L := by rw [hs1, mset_ne (by omega), w19]
    simp (disch := first | assumption | omega) only [rn, wk, al, wr_e, td_e, tm_e, mset_eq, mset_ne, if_pos, if_neg, Int.reduceAdd, Int.reduceSub, Int.reduceMul, Int.reduceNeg, Int.reduceLT, Int.reduceLE, Int.reduceEq, Int.cast_ofNat_Int, eq_self, and_true, true_and, ite_self, true_or, or_true, false_or, or_false, and_false, false_and, not_true_eq_false, not_false_eq_true, if_true, if_false, e_Life_behindStep_0, e_Life_behindStep_40, e_Life_behindStep_45, e_Life_behindStep_61, e_Life_behindStep_69, e_Life_behindStep_70, e_Life_behindStep_100, e_Life_behindStep_103, e_Life_behindStep_104, ah hh, w13, w18, ← hs1, w19']
    exact hp
theorem t_act (d d' : Nat) (sd : Int) {h : Int} (hh : isH h) (s s0 : Mem) (hs0 : s0 = mset s 12 0 (s 12 0 + 1)) (r : Int) (hC : CI_ h s r) (hr : r < s (h + 12) 2) (hw : 10 ≤ s (h + 13) r ∧ s (h + 13) r ≤ 14) (h300 : s 12 0 < 300) : CV (d + 7) 198 [12, h, h + 12, r] s0 fun q s1 => Stp_ d' sd h s r q s1 := by
  have hu37 : 37 ≤ h ∧ h ≤ 117 := by unfold isH at hh; omega
  obtain ⟨i1, i2, i3, i4, i5, i6, i7, i8⟩ := hC
  obtain ⟨sf, s00, fc, sh⟩ := s0_f hh hs0
  obtain ⟨v, hv⟩ := id i1
  obtain ⟨v1, v2, v3⟩ := HRu_v hv i2
  have a13 : h + 12 + 1 = h + 13 := by omega
  have w13 : s0 (h + 12 + 1) r = s (h + 13) r := by rw [a13, sf _ _ (by omega)]
  have e12 : s0 (h + 12) 2 = s (h + 12) 2 := sf _ _ (by omega)
  have hcb : Cb s0 := ⟨by rw [sf _ _ (by omega)]; exact i6, fun j a b => by rw [sf _ _ (by omega)]; have := i5 j a b; omega⟩
  have hact := act_all d hh s0 ⟨v, sh v hv⟩ hcb (by rw [sf _ _ (by omega)]; exact i2) r (by rw [e12]; exact ⟨i3.1, hr⟩) (by rw [w13]; omega)
  have nextO : ∀ n, Opn h s (r + 1) n → Opn h s r n := by
    rintro n ⟨o1, o2, o3⟩
    have hn : n ≠ r := fun e => by rw [e] at o2; omega
    exact ⟨by omega, o2, by omega⟩
  apply c_Life_behindStep
  simp (disch := first | assumption | omega) only [rn, wk, al, wr_e, td_e, tm_e, mset_eq, mset_ne, if_pos, if_neg, Int.reduceAdd, Int.reduceSub, Int.reduceMul, Int.reduceNeg, Int.reduceLT, Int.reduceLE, Int.reduceEq, Int.cast_ofNat_Int, eq_self, and_true, true_and, ite_self, true_or, or_true, false_or, or_false, and_false, false_and, not_true_eq_false, not_false_eq_true, if_true, if_false, e_Life_behindStep_0, e_Life_behindStep_40, e_Life_behindStep_45, e_Life_behindStep_61, e_Life_behindStep_69, e_Life_behindStep_70, e_Life_behindStep_100, e_Life_behindStep_103, e_Life_behindStep_104, ah hh, w13]
  refine EV_call (CV_mono hact ?_)
  rintro r0 t ⟨⟨t1, t2⟩, t3⟩
  obtain ⟨m1, m2, m3, m4⟩ := t2
  have tf : ∀ c i, ¬ (c = 12 ∨ (h ≤ c ∧ c ≤ h + 10)) → t c i = s c i := fun c i hc => by rw [t1 c i hc]; exact sf c i (by omega)
  have fc1 : Fcl h s t := fun c i hc => tf c i (by omega)
  have t00 : t 12 0 = s 12 0 + 1 := by rw [m1]; exact s00
  have hVt : Vh h t := by
    obtain ⟨r', w, -, hw2⟩ := t3 0 (mset (mset (mset (mset (mset (mset v 137 42 (s0 12 0)) 153 1 (s0 12 2)) 153 2 (s0 12 3)) 153 3 (s0 12 4)) 153 4 (s0 12 5)) 137 41 (s0 12 6)) (s0 12 1) (HRu_rf (fun i => by simp (disch := omega) only [mset_ne]) (fun i => by simp (disch := omega) only [mset_ne]) (sh v hv)) (by unfold Cnt; simp (disch := omega) only [mset_ne, mset_eq, and_true])
    exact ⟨w, hw2.2⟩
  have hp : Stp_ d' sd h s r (r + 1) t := by
    refine ⟨fc1, ⟨hVt, by rw [tf _ _ (by omega)]; exact i2, by rw [tf _ _ (by omega)]; omega, by rw [t00]; omega, fun j a c => ?_, m3, fun n hn => by rw [tf _ _ (by omega)]; exact i7 n (nextO n ((Opn_congr fc1 hh).1 hn)), ?_⟩, ?_, ?_⟩
    · have a1 := m4 j a c
      have a2 := i5 j a c
      rw [sf 12 j (by omega)] at a1
      rw [t00]; omega
    · rw [NE_congr fc1 hh]
      rintro ⟨-, -, k⟩
      rw [show r + 1 - 1 = r by omega] at k; omega
    · unfold pot
      rw [t00]
      split <;> split <;> omega
    · intro u0 u F hR K
      obtain ⟨hu, hc, hl, hf⟩ := hR
      obtain ⟨x7, -⟩ := HRu_r hu i2
      obtain ⟨c1, c2, c3, c4, c5, c6, c7⟩ := hc
      have m0 := i5 1 (by omega) (by omega)
      obtain ⟨u', hu'⟩ : ∃ u', u' = mset u 137 42 (s 12 0 + 1) := ⟨_, rfl⟩
      have uf : ∀ c i, ¬ (c = 137 ∧ i = 42) → u' c i = u c i := fun c i hc => by rw [hu', mset_ne (by omega)]
      have u42 : u' 137 42 = s 12 0 + 1 := by rw [hu', mset_eq rfl rfl]
      have xw := Rw_ hu i2 (r := r) (by omega)
      refine rl_pre d' sd r u F (s 12 0) (by omega) (by omega) (by omega) (by omega) c1 (by omega) ?_
      have hru : HRu h s0 u' := sh u' (HRu_rf (fun i => uf _ _ (by omega)) (fun i => uf _ _ (by omega)) hu)
      have hcn : Cnt s0 u' (u 153 0) := by
        refine ⟨by rw [u42, s00], ?_, ?_, ?_, ?_, ?_, ?_⟩
        · rw [sf _ _ (by omega)]; exact c2
        · rw [uf _ _ (by omega), sf _ _ (by omega)]; exact c3
        · rw [uf _ _ (by omega), sf _ _ (by omega)]; exact c4
        · rw [uf _ _ (by omega), sf _ _ (by omega)]; exact c5
        · rw [uf _ _ (by omega), sf _ _ (by omega)]; exact c6
        · rw [uf _ _ (by omega), sf _ _ (by omega)]; exact c7
      have u153 : u' 153 0 = u 153 0 := uf _ _ (by omega)
      rw [← hu', e_R_lives_92]
      simp (disch := first | assumption | omega) only [rn, wk, al, wr_e, td_e, tm_e, mset_eq, mset_ne, if_pos, if_neg, Int.reduceAdd, Int.reduceSub, Int.reduceMul, Int.reduceNeg, Int.reduceLT, Int.reduceLE, Int.reduceEq, Int.cast_ofNat_Int, eq_self, and_true, true_and, ite_self, true_or, or_true, false_or, or_false, and_false, false_and, not_true_eq_false, not_false_eq_true, if_true, if_false, u153]
      refine EV_call (CV_mono (t3 d' u' (u 153 0) hru hcn) ?_)
      rintro r' w ⟨⟨h01, ⟨d1, d2, d3, d4, d5, d6, d7⟩, w2⟩, w3⟩
      have wp : w 138 (500 + 6 * r) = s (h + 13) r := by rw [w2 _ _ (by omega) (by omega) (by omega) (by omega) (by omega), uf _ _ (by omega)]; omega
      obtain ⟨y, hy⟩ : ∃ y, y = mset w 153 0 (u 153 0 + (1 - r')) := ⟨_, rfl⟩
      have yf : ∀ c i, ¬ (c = 153 ∧ i = 0) → y c i = w c i := fun c i hc => by rw [hy, mset_ne (by omega)]
      have y0 : y 153 0 = u 153 0 + (1 - r') := by rw [hy, mset_eq rfl rfl]
      have yp : y 138 (500 + 6 * r) = s (h + 13) r := by rw [yf _ _ (by omega)]; exact wp
      have hrel : Rel h u0 t y (r + 1) := by
        refine ⟨HRu_rf (fun i => yf _ _ (by omega)) (fun i => yf _ _ (by omega)) w3, ⟨?_, ?_, ?_, ?_, ?_, ?_, ?_⟩, fun n hn => ?_, fun c i a1 a2 a3 a4 a5 a6 => by rw [yf c i (by omega), w2 c i (by omega) (by omega) (by omega) (by omega) (by omega), uf c i (by omega)]; exact hf c i a1 a2 a3 a4 a5 a6⟩
        · rw [yf _ _ (by omega)]; exact d1
        · rw [y0]; exact d2
        · rw [yf _ _ (by omega)]; exact d3
        · rw [yf _ _ (by omega)]; exact d4
        · rw [yf _ _ (by omega)]; exact d5
        · rw [yf _ _ (by omega)]; exact d6
        · rw [yf _ _ (by omega)]; exact d7
        · rw [tf _ _ (by omega), yf _ _ (by omega), w2 _ _ (by omega) (by omega) (by omega) (by omega) (by omega), uf _ _ (by omega)]
          exact hl n (nextO n ((Opn_congr fc1 hh).1 hn))
      have hk := be_call d' sd (r + 1) y F (K y hrel)
      rcases h01 with e | e
      · subst e
        have e1 : u 153 0 + (1 - 0) = u 153 0 + 1 := by omega
        rw [e1] at hy
        simp (disch := first | assumption | omega) only [rn, wk, al, wr_e, td_e, tm_e, mset_eq, mset_ne, if_pos, if_neg, Int.reduceAdd, Int.reduceSub, Int.reduceMul, Int.reduceNeg, Int.reduceLT, Int.reduceLE, Int.reduceEq, Int.cast_ofNat_Int, eq_self, and_true, true_and, ite_self, true_or, or_true, false_or, or_false, and_false, false_and, not_true_eq_false, not_false_eq_true, if_true, if_false, e_R_lives_0, e_R_lives_30, e_R_lives_61, e_R_lives_92, e_R_lives_111, e_R_lives_112, e_R_lives_141, e_R_lives_175, e_R_lives_178, e_R_lives_185, ← hy, yp]
        refine EV_call (CV_mono hk ?_)
        intro r2 y hy2
        have hz := hy2 (500 + 6 * r)
        simp (disch := first | assumption | omega) only [rn, wk, al, wr_e, td_e, tm_e, mset_eq, mset_ne, if_pos, if_neg, Int.reduceAdd, Int.reduceSub, Int.reduceMul, Int.reduceNeg, Int.reduceLT, Int.reduceLE, Int.reduceEq, Int.cast_ofNat_Int, eq_self, and_true, true_and, ite_self, true_or, or_true, false_or, or_false, and_false, false_and, not_true_eq_false, not_false_eq_true, if_true, if_false]
        exact hz
      · subst e
        have e1 : u 153 0 + (1 - 1) = u 153 0 := by omega
        rw [e1] at hy
        simp (disch := first | assumption | omega) only [rn, wk, al, wr_e, td_e, tm_e, mset_eq, mset_ne, if_pos, if_neg, Int.reduceAdd, Int.reduceSub, Int.reduceMul, Int.reduceNeg, Int.reduceLT, Int.reduceLE, Int.reduceEq, Int.cast_ofNat_Int, eq_self, and_true, true_and, ite_self, true_or, or_true, false_or, or_false, and_false, false_and, not_true_eq_false, not_false_eq_true, if_true, if_false, e_R_lives_0, e_R_lives_30, e_R_lives_61, e_R_lives_92, e_R_lives_111, e_R_lives_112, e_R_lives_141, e_R_lives_175, e_R_lives_178, e_R_lives_185, Int.add_zero, ← hy, yp]
        refine EV_call (CV_mono hk ?_)
        intro r2 y hy2
        have hz := hy2 (500 + 6 * r)
        simp (disch := first | assumption | omega) only [rn, wk, al, wr_e, td_e, tm_e, mset_eq, mset_ne, if_pos, if_neg, Int.reduceAdd, Int.reduceSub, Int.reduceMul, Int.reduceNeg, Int.reduceLT, Int.reduceLE, Int.reduceEq, Int.cast_ofNat_Int, eq_self, and_true, true_and, ite_self, true_or, or_true, false_or, or_false, and_false, false_and, not_true_eq_false, not_false_eq_true, if_true, if_false]
        exact hz
  simp (disch := first | assumption | omega) only [rn, wk, al, wr_e, td_e, tm_e, mset_eq, mset_ne, if_pos, if_neg, Int.reduceAdd, Int.reduceSub, Int.reduceMul, Int.reduceNeg, Int.reduceLT, Int.reduceLE, Int.reduceEq, Int.cast_ofNat_Int, eq_self, and_true, true_and, ite_self, true_or, or_true, false_or, or_false, and_false, false_and, not_true_eq_false, not_false_eq_true, if_true, if_false, e_Life_behindStep_0, e_Life_behindStep_40, e_Life_behindStep_45, e_Life_behindStep_61, e_Life_behindStep_69, e_Life_behindStep_70, e_Life_behindStep_100, e_Life_behindStep_103, e_Life_behindStep_104]
  exact hp
