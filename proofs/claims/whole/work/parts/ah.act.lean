/-! ===== H2: live, one step's act ===== -/
/-- the counts of the class's run (cell 12) and of the reference's (cells 137, 153); m: what was missed -/
def Cnt (s u : Mem) (m : Int) : Prop := u 137 42 = s 12 0 ∧ m = s 12 1 ∧ u 153 1 = s 12 2 ∧ u 153 2 = s 12 3 ∧ u 153 3 = s 12 4 ∧ u 153 4 = s 12 5 ∧ u 137 41 = s 12 6
def Fca (h : Int) (s t : Mem) : Prop := ∀ c i, ¬ (c = 12 ∨ (h ≤ c ∧ c ≤ h + 10)) → t c i = s c i
def Frd (u w : Mem) : Prop := ∀ c i, c ≠ 147 → c ≠ 146 → ¬ (c = 137 ∧ (i = 26 ∨ i = 27 ∨ i = 41)) → ¬ (c = 138 ∧ i < 500) → ¬ (c = 153 ∧ 1 ≤ i ∧ i ≤ 3) → w c i = u c i
theorem HRu_cl {h : Int} {s t u : Mem} (h1 : ∀ c i, h ≤ c ∧ c < h + 20 → t c i = s c i) (hu : HRu h s u) : HRu h t u :=
  HR_congr (fun k i hk _ => h1 (h + k) i (by omega)) (fun _ _ _ => rfl) (fun _ _ _ => rfl) hu
theorem HRu_rf {h : Int} {s u w : Mem} (h1 : ∀ i, w 138 i = u 138 i) (h2 : ∀ i, w 139 i = u 139 i) (hu : HRu h s u) : HRu h s w :=
  HR_congr (fun _ _ _ _ => rfl) (fun i _ _ => h1 i) (fun i _ _ => h2 i) hu
def nx (x : Int) : Int := (x * 3203 + 11437) % 65536
theorem nx_b (x : Int) : 0 ≤ nx x ∧ nx x < 65536 := by unfold nx; omega
theorem q_Ldraw (d : Nat) (n : Int) (s : Mem) (hs : 0 ≤ s 12 6 ∧ s 12 6 < 65536) (hn : 0 < n ∧ n ≤ 100) : sem (d + 1) 204 [12, n] s = some (nx (s 12 6) / 8 % n, mset s 12 6 (nx (s 12 6))) := by
  have e : (s 12 6 * 3203 + 11437) % 65536 = nx (s 12 6) := rfl
  have hb := nx_b (s 12 6)
  have hm : 0 ≤ nx (s 12 6) / 8 % n ∧ nx (s 12 6) / 8 % n < n := ⟨Int.emod_nonneg _ (by omega), Int.emod_lt_of_pos _ (by omega)⟩
  apply CV_eq; apply c_Life_draw
  simp (disch := first | assumption | omega) only [rn, wk, al, wr_e, td_e, tm_e, mset_eq, mset_ne, if_pos, if_neg, Int.reduceAdd, Int.reduceSub, Int.reduceMul, Int.reduceNeg, Int.reduceLT, Int.reduceLE, Int.reduceEq, Int.cast_ofNat_Int, eq_self, and_true, true_and, ite_self, true_or, or_true, false_or, or_false, and_false, false_and, not_true_eq_false, not_false_eq_true, if_true, if_false, e_Life_draw_0, e_Life_draw_35, e_Life_draw_36, e]
theorem q_Rdraw (d : Nat) (n : Int) (u : Mem) (hs : 0 ≤ u 137 41 ∧ u 137 41 < 65536) (hn : 0 < n ∧ n ≤ 100) : sem (d + 1) 362 [137, n] u = some (nx (u 137 41) / 8 % n, mset u 137 41 (nx (u 137 41))) := by
  have e : (u 137 41 * 3203 + 11437) % 65536 = nx (u 137 41) := rfl
  have hb := nx_b (u 137 41)
  have hm : 0 ≤ nx (u 137 41) / 8 % n ∧ nx (u 137 41) / 8 % n < n := ⟨Int.emod_nonneg _ (by omega), Int.emod_lt_of_pos _ (by omega)⟩
  apply CV_eq; apply c_R_draw
  simp (disch := first | assumption | omega) only [rn, wk, al, wr_e, td_e, tm_e, mset_eq, mset_ne, if_pos, if_neg, Int.reduceAdd, Int.reduceSub, Int.reduceMul, Int.reduceNeg, Int.reduceLT, Int.reduceLE, Int.reduceEq, Int.cast_ofNat_Int, eq_self, and_true, true_and, ite_self, true_or, or_true, false_or, or_false, and_false, false_and, not_true_eq_false, not_false_eq_true, if_true, if_false, e_R_draw_0, e]
theorem q_counts1 (d : Nat) (k : Int) (u : Mem) (hk : 0 ≤ k ∧ k < 5) (hb : 0 ≤ u 153 k ∧ u 153 k ≤ 1000) : sem (d + 1) 359 [137, k, 1] u = some (1, mset u 153 k (u 153 k + 1)) := by
  apply CV_eq; apply c_R_countsIf
  simp (disch := first | assumption | omega) only [rn, wk, al, wr_e, td_e, tm_e, mset_eq, mset_ne, if_pos, if_neg, Int.reduceAdd, Int.reduceSub, Int.reduceMul, Int.reduceNeg, Int.reduceLT, Int.reduceLE, Int.reduceEq, Int.cast_ofNat_Int, eq_self, and_true, true_and, ite_self, true_or, or_true, false_or, or_false, and_false, false_and, not_true_eq_false, not_false_eq_true, if_true, if_false, e_R_countsIf_0, e_R_countsIf_14]
theorem q_counts0 (d : Nat) (k : Int) (u : Mem) : sem (d + 1) 359 [137, k, 0] u = some (0, u) := by
  apply CV_eq; apply c_R_countsIf
  simp (disch := first | assumption | omega) only [rn, wk, al, wr_e, td_e, tm_e, mset_eq, mset_ne, if_pos, if_neg, Int.reduceAdd, Int.reduceSub, Int.reduceMul, Int.reduceNeg, Int.reduceLT, Int.reduceLE, Int.reduceEq, Int.cast_ofNat_Int, eq_self, and_true, true_and, ite_self, true_or, or_true, false_or, or_false, and_false, false_and, not_true_eq_false, not_false_eq_true, if_true, if_false, e_R_countsIf_0, e_R_countsIf_14]
/-- how the counts of the class move in one act -/
def Cm (s t : Mem) : Prop := t 12 0 = s 12 0 ∧ t 12 5 = s 12 5 ∧ (0 ≤ t 12 6 ∧ t 12 6 < 65536) ∧ ∀ j, 1 ≤ j → j ≤ 4 → s 12 j ≤ t 12 j ∧ t 12 j ≤ s 12 j + 1
def Cb (s : Mem) : Prop := (0 ≤ s 12 6 ∧ s 12 6 < 65536) ∧ ∀ j, 1 ≤ j → j ≤ 4 → 0 ≤ s 12 j ∧ s 12 j ≤ 299
theorem Cb_4 {s : Mem} (h : Cb s) : (0 ≤ s 12 1 ∧ s 12 1 ≤ 299) ∧ (0 ≤ s 12 2 ∧ s 12 2 ≤ 299) ∧ (0 ≤ s 12 3 ∧ s 12 3 ≤ 299) ∧ (0 ≤ s 12 4 ∧ s 12 4 ≤ 299) := ⟨h.2 1 (by omega) (by omega), h.2 2 (by omega) (by omega), h.2 3 (by omega) (by omega), h.2 4 (by omega) (by omega)⟩
theorem Cm_1 {s t : Mem} {j0 : Int} (hj : 1 ≤ j0 ∧ j0 ≤ 4) (hf : ∀ j, ¬ (j = j0) → t 12 j = s 12 j) (h1 : t 12 j0 = s 12 j0 + 1) (hb : Cb s) : Cm s t := by
  refine ⟨hf 0 (by omega), hf 5 (by omega), by rw [hf 6 (by omega)]; exact hb.1, fun j a b => ?_⟩
  by_cases e : j = j0
  · rw [e, h1]; omega
  · rw [hf j e]; omega
def SpP (h : Int) (s : Mem) (c y b : Int) (t : Mem) : Prop := Fca h s t ∧ ((∀ j, j ≠ 2 → t 12 j = s 12 j) ∧ t 12 2 = s 12 2 + 1 ∨ (∀ j, j ≠ 1 → t 12 j = s 12 j) ∧ t 12 1 = s 12 1 + 1) ∧ ∀ d' u, HRu h s u → CV (d' + 4) 286 [137, c, y, b] u fun r' w => (((t 12 2 = s 12 2 + 1 ∧ r' = 0) ∨ (t 12 2 = s 12 2 ∧ r' ≠ 0)) ∧ Fr_ u w) ∧ HRu h t w
theorem q_Lspeak (d : Nat) {h : Int} (hh : isH h) (c y b : Int) (s : Mem) (hV : Vh h s) (hb : 0 ≤ b ∧ b ≤ 20) (hC : Cb s) : CV (d + 3) 202 [12, h, c, y, b] s fun _ t => SpP h s c y b t := by
  have hu37 : 37 ≤ h ∧ h ≤ 117 := by unfold isH at hh; omega
  obtain ⟨b1, b2, b3, b4⟩ := Cb_4 hC
  apply c_Life_speak
  simp (disch := first | assumption | omega) only [rn, wk, al, wr_e, td_e, tm_e, mset_eq, mset_ne, if_pos, if_neg, Int.reduceAdd, Int.reduceSub, Int.reduceMul, Int.reduceNeg, Int.reduceLT, Int.reduceLE, Int.reduceEq, Int.cast_ofNat_Int, eq_self, and_true, true_and, ite_self, true_or, or_true, false_or, or_false, and_false, false_and, not_true_eq_false, not_false_eq_true, if_true, if_false, e_Life_speak_0, e_Life_speak_24, e_Life_speak_34]
  refine EV_call (CV_mono (a_say d hh c y b s hV hb) ?_)
  rintro r t ⟨r1, r2, r3⟩
  have g1 : t 12 1 = s 12 1 := r2 _ _ (by omega)
  have g2 : t 12 2 = s 12 2 := r2 _ _ (by omega)
  by_cases e : r = 0
  · have hp : SpP h s c y b (mset t 12 2 (s 12 2 + 1)) := by
      refine ⟨fun c' i hc' => by rw [mset_ne (by omega)]; exact r2 c' i (by omega), Or.inl ⟨fun j hj => by rw [mset_ne (by omega)]; exact r2 _ _ (by omega), mset_eq rfl rfl⟩, fun d' u hu => CV_mono (r3 d' u hu) ?_⟩
      rintro r' w ⟨⟨w1, w2⟩, w3⟩
      exact ⟨⟨Or.inl ⟨mset_eq rfl rfl, by omega⟩, w2⟩, HRu_cl (fun c' i hc' => mset_ne (by omega)) w3⟩
    simp (disch := first | assumption | omega) only [rn, wk, al, wr_e, td_e, tm_e, mset_eq, mset_ne, if_pos, if_neg, Int.reduceAdd, Int.reduceSub, Int.reduceMul, Int.reduceNeg, Int.reduceLT, Int.reduceLE, Int.reduceEq, Int.cast_ofNat_Int, eq_self, and_true, true_and, ite_self, true_or, or_true, false_or, or_false, and_false, false_and, not_true_eq_false, not_false_eq_true, if_true, if_false, e_Life_speak_0, e_Life_speak_24, e_Life_speak_34, g2]
    exact hp
  · have hp : SpP h s c y b (mset t 12 1 (s 12 1 + 1)) := by
      refine ⟨fun c' i hc' => by rw [mset_ne (by omega)]; exact r2 c' i (by omega), Or.inr ⟨fun j hj => by rw [mset_ne (by omega)]; exact r2 _ _ (by omega), mset_eq rfl rfl⟩, fun d' u hu => CV_mono (r3 d' u hu) ?_⟩
      rintro r' w ⟨⟨w1, w2⟩, w3⟩
      exact ⟨⟨Or.inr ⟨by rw [mset_ne (by omega)]; exact g2, by omega⟩, w2⟩, HRu_cl (fun c' i hc' => mset_ne (by omega)) w3⟩
    simp (disch := first | assumption | omega) only [rn, wk, al, wr_e, td_e, tm_e, mset_eq, mset_ne, if_pos, if_neg, Int.reduceAdd, Int.reduceSub, Int.reduceMul, Int.reduceNeg, Int.reduceLT, Int.reduceLE, Int.reduceEq, Int.cast_ofNat_Int, eq_self, and_true, true_and, ite_self, true_or, or_true, false_or, or_false, and_false, false_and, not_true_eq_false, not_false_eq_true, if_true, if_false, e_Life_speak_0, e_Life_speak_24, e_Life_speak_34, g1]
    exact hp
def ActR (h : Int) (t u : Mem) (m r' : Int) (w : Mem) : Prop := ((r' = 0 ∨ r' = 1) ∧ Cnt t w (m + (1 - r')) ∧ Frd u w) ∧ HRu h t w
/-- what an act does: the class's counts, and the reference's does likewise -/
def ActP (h : Int) (s : Mem) (r : Int) (t : Mem) : Prop := (Fca h s t ∧ Cm s t) ∧ ∀ d' u m, HRu h s u → Cnt s u m → CV (d' + 10) 358 [137, 500 + 6 * r] u (ActR h t u m)
/-- the row r of the mornings, as the reference has it -/
theorem HRu_r {h : Int} {s u : Mem} (hu : HRu h s u) (h1 : s (h + 12) 0 = 1) : u 138 7 = s (h + 12) 2 ∧ ∀ n, 0 ≤ n ∧ n < s (h + 12) 2 → RR1 (win s h) (u 138) n := hu.2.2.2.2.2.2.2.2.2 h1
theorem HRu_v {h : Int} {s u : Mem} (hu : HRu h s u) (h1 : s (h + 12) 0 = 1) : (0 ≤ s (h + 12) 2 ∧ s (h + 12) 2 ≤ 60) ∧ (∀ n, 0 ≤ n ∧ n < s (h + 12) 2 → VR (win s h) n) ∧ NS (win s h) := hu.1.2.2.2.2.2.2.2 h1
theorem act_say (d : Nat) {h : Int} (hh : isH h) (s : Mem) (hV : Vh h s) (hC : Cb s) (h1 : s (h + 12) 0 = 1) (r : Int) (hr : 0 ≤ r ∧ r < s (h + 12) 2) (hw : s (h + 12 + 1) r = 10) : CV (d + 6) 201 [12, h, h + 12, r] s fun _ t => ActP h s r t := by
  have hu37 : 37 ≤ h ∧ h ≤ 117 := by unfold isH at hh; omega
  obtain ⟨b1, b2, b3, b4⟩ := Cb_4 hC
  have hV' := hV
  obtain ⟨v, hv⟩ := hV'
  obtain ⟨v1, v2, -⟩ := HRu_v hv h1
  have a13 : h + 12 + 1 = h + 13 := by omega
  have a15 : h + 12 + 3 = h + 15 := by omega
  have a16 : h + 12 + 4 = h + 16 := by omega
  have a18 : h + 12 + 6 = h + 18 := by omega
  have hw' : win s h 13 r = 10 := by rw [a13] at hw; exact hw
  have hvr : (0 ≤ s (h + 15) r ∧ s (h + 15) r < s h 4) ∧ (0 ≤ s (h + 16) r ∧ s (h + 16) r ≤ 2) ∧ (0 ≤ s (h + 18) r ∧ s (h + 18) r ≤ 20) := by
    have q := v2 r hr
    unfold VR at q
    rw [win0] at q
    rcases q with ⟨-, q1, q2, q3⟩ | ⟨q, -⟩ | q | ⟨q, -⟩ | ⟨q, -⟩ | ⟨q, -⟩
    · exact ⟨q1, q2, q3⟩
    all_goals omega
  apply c_Life_act
  simp (disch := first | assumption | omega) only [rn, wk, al, wr_e, td_e, tm_e, mset_eq, mset_ne, if_pos, if_neg, Int.reduceAdd, Int.reduceSub, Int.reduceMul, Int.reduceNeg, Int.reduceLT, Int.reduceLE, Int.reduceEq, Int.cast_ofNat_Int, eq_self, and_true, true_and, ite_self, true_or, or_true, false_or, or_false, and_false, false_and, not_true_eq_false, not_false_eq_true, if_true, if_false, e_Life_act_0, e_Life_act_40, e_Life_act_66, e_Life_act_74, e_Life_act_82, e_Life_act_102, e_Life_act_109, ah hh, hw]
  refine EV_call (CV_mono (q_Lspeak (d + 2) hh (s (h + 12 + 3) r) (s (h + 12 + 4) r) (s (h + 12 + 6) r) s hV (by rw [a18]; exact hvr.2.2) hC) ?_)
  rintro r2 t ⟨t1, t2, t3⟩
  have hp : ActP h s r t := by
    refine ⟨⟨t1, ?_⟩, fun d' u m hu hc => ?_⟩
    · rcases t2 with ⟨k1, k2⟩ | ⟨k1, k2⟩
      · exact Cm_1 (by omega) (fun j hj => k1 j hj) k2 hC
      · exact Cm_1 (by omega) (fun j hj => k1 j hj) k2 hC
    · obtain ⟨x1, x2⟩ := HRu_r hu h1
      have xr := (x2 r hr).1 hw'
      obtain ⟨y0, y1, y2, y3⟩ := xr
      have y1' : u 138 (501 + 6 * r) = s (h + 12 + 3) r := by rw [a15]; exact y1
      have y2' : u 138 (502 + 6 * r) = s (h + 12 + 4) r := by rw [a16]; exact y2
      have y3' : u 138 (503 + 6 * r) = s (h + 12 + 6) r := by rw [a18]; exact y3
      have z1 : 500 + 6 * r + 1 = 501 + 6 * r := by omega
      have z2 : 500 + 6 * r + 2 = 502 + 6 * r := by omega
      have z3 : 500 + 6 * r + 3 = 503 + 6 * r := by omega
      obtain ⟨c1, c2, c3, c4, c5, c6, c7⟩ := hc
      apply c_R_does
      simp (disch := first | assumption | omega) only [rn, wk, al, wr_e, td_e, tm_e, mset_eq, mset_ne, if_pos, if_neg, Int.reduceAdd, Int.reduceSub, Int.reduceMul, Int.reduceNeg, Int.reduceLT, Int.reduceLE, Int.reduceEq, Int.cast_ofNat_Int, eq_self, and_true, true_and, ite_self, true_or, or_true, false_or, or_false, and_false, false_and, not_true_eq_false, not_false_eq_true, if_true, if_false, e_R_does_0, e_R_does_60, e_R_does_83, e_R_does_84, e_R_does_88, e_R_does_106, e_R_does_121, e_R_does_126, e_R_does_131, z1, z2, z3, y0, y1', y2', y3']
      refine EV_call (CV_mono (t3 (d' + 5) u hu) ?_)
      rintro r' w ⟨⟨w1, w2⟩, w3⟩
      have g1 : w 153 1 = u 153 1 := w2 _ _ (by omega) (by omega) (by omega) (by omega)
      have G : ∀ c i, c = 153 ∨ (c = 137 ∧ i > 40) → w c i = u c i := fun c i hc => w2 c i (by omega) (by omega) (by omega) (by omega)
      rcases w1 with ⟨k1, k2⟩ | ⟨k1, k2⟩
      · have q := q_counts1 (d' + 8) 1 w (by omega) (by omega)
        rcases t2 with ⟨k3, k4⟩ | ⟨k3, k4⟩
        · have hpost : ActR h t u m 1 (mset w 153 1 (w 153 1 + 1)) := by
            refine ⟨⟨Or.inr rfl, ⟨?_, ?_, ?_, ?_, ?_, ?_, ?_⟩, fun c i a1 a2 a3 a4 a5 => by rw [mset_ne (by omega)]; exact w2 c i a1 a2 (by omega) a4⟩, HRu_rf (fun i => mset_ne (by omega)) (fun i => mset_ne (by omega)) w3⟩
            · rw [mset_ne (by omega), G _ _ (by omega), k3 0 (by omega)]; exact c1
            · rw [k3 1 (by omega)]; omega
            · rw [mset_eq rfl rfl, g1, k4, c3]
            · rw [mset_ne (by omega), G _ _ (by omega), k3 3 (by omega)]; exact c4
            · rw [mset_ne (by omega), G _ _ (by omega), k3 4 (by omega)]; exact c5
            · rw [mset_ne (by omega), G _ _ (by omega), k3 5 (by omega)]; exact c6
            · rw [mset_ne (by omega), G _ _ (by omega), k3 6 (by omega)]; exact c7
          simp (disch := first | assumption | omega) only [rn, wk, al, wr_e, td_e, tm_e, mset_eq, mset_ne, if_pos, if_neg, Int.reduceAdd, Int.reduceSub, Int.reduceMul, Int.reduceNeg, Int.reduceLT, Int.reduceLE, Int.reduceEq, Int.cast_ofNat_Int, eq_self, and_true, true_and, ite_self, true_or, or_true, false_or, or_false, and_false, false_and, not_true_eq_false, not_false_eq_true, if_true, if_false, e_R_does_0, e_R_does_60, e_R_does_83, e_R_does_84, e_R_does_88, e_R_does_106, e_R_does_121, e_R_does_126, e_R_does_131, k2, q]
          exact hpost
        · exfalso
          have := k3 2 (by omega)
          omega
      · have q := q_counts0 (d' + 8) 1 w
        rcases t2 with ⟨k3, k4⟩ | ⟨k3, k4⟩
        · omega
        · have hpost : ActR h t u m 0 w := by
            refine ⟨⟨Or.inl rfl, ⟨?_, ?_, ?_, ?_, ?_, ?_, ?_⟩, fun c i a1 a2 a3 a4 a5 => w2 c i a1 a2 (by omega) a4⟩, w3⟩
            · rw [G _ _ (by omega), k3 0 (by omega)]; exact c1
            · omega
            · rw [G _ _ (by omega), k3 2 (by omega)]; exact c3
            · rw [G _ _ (by omega), k3 3 (by omega)]; exact c4
            · rw [G _ _ (by omega), k3 4 (by omega)]; exact c5
            · rw [G _ _ (by omega), k3 5 (by omega)]; exact c6
            · rw [G _ _ (by omega), k3 6 (by omega)]; exact c7
          simp (disch := first | assumption | omega) only [rn, wk, al, wr_e, td_e, tm_e, mset_eq, mset_ne, if_pos, if_neg, Int.reduceAdd, Int.reduceSub, Int.reduceMul, Int.reduceNeg, Int.reduceLT, Int.reduceLE, Int.reduceEq, Int.cast_ofNat_Int, eq_self, and_true, true_and, ite_self, true_or, or_true, false_or, or_false, and_false, false_and, not_true_eq_false, not_false_eq_true, if_true, if_false, e_R_does_0, e_R_does_60, e_R_does_83, e_R_does_84, e_R_does_88, e_R_does_106, e_R_does_121, e_R_does_126, e_R_does_131, k2, q]
          exact hpost
  simp (disch := first | assumption | omega) only [rn, wk, al, wr_e, td_e, tm_e, mset_eq, mset_ne, if_pos, if_neg, Int.reduceAdd, Int.reduceSub, Int.reduceMul, Int.reduceNeg, Int.reduceLT, Int.reduceLE, Int.reduceEq, Int.cast_ofNat_Int, eq_self, and_true, true_and, ite_self, true_or, or_true, false_or, or_false, and_false, false_and, not_true_eq_false, not_false_eq_true, if_true, if_false, e_Life_act_0, e_Life_act_40, e_Life_act_66, e_Life_act_74, e_Life_act_82, e_Life_act_102, e_Life_act_109]
  exact hp
