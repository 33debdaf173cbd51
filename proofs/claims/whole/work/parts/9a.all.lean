/-! ===== H2: putsAll, laysSums; sums of sums ===== -/
def RA (A s : Mem) : Prop := (VC A ∧ VW A ∧ VS A ∧ VL A ∧ VN A) ∧ RC A (s 138) ∧ RW A (s 138) ∧ RS A (s 138) ∧ RLc A (s 138) ∧ RK A (s 138)
theorem RA_of {A s : Mem} {N : Int → Int} (h : HR A (s 138) N) : RA A s := ⟨⟨h.1.1, h.1.2.1, h.1.2.2.1, h.1.2.2.2.1, h.1.2.2.2.2.2.1⟩, h.2.1, h.2.2.1, h.2.2.2.1, h.2.2.2.2.1, h.2.2.2.2.2.1⟩
theorem RA_congr {A s u : Mem} (h1 : u 138 = s 138) (h : RA A s) : RA A u := by
  unfold RA at h ⊢; rw [h1]; exact h
/-- all but the distances, the sums that are left, and their counts, is as it was -/
def Ff (s u : Mem) : Prop := ∀ c i, c ≠ 147 → c ≠ 146 → ¬ (c = 137 ∧ (i = 26 ∨ i = 27)) → u c i = s c i
theorem Ff_cell {s u : Mem} (h : Ff s u) {c : Int} (h1 : c ≠ 147) (h2 : c ≠ 137) (h3 : c ≠ 146) : u c = s c := by
  funext i; exact h c i h1 h3 (by omega)
theorem Ff_of {s u : Mem} (h : Fl s u) : Ff s u := fun c i a _ b => h c i a b
theorem Ff_trans {s u v : Mem} (h1 : Ff s u) (h2 : Ff u v) : Ff s v := fun c i a b e => by rw [h2 c i a b e, h1 c i a b e]
theorem rk_v {A : Mem} {B : Int → Int} (hc : VC A) (hl : VL A) (hk : RK A B) {k : Int} (h : 0 ≤ k ∧ k < A 0 5) : vK A (A 9 k) := by
  unfold VC at hc
  have q := hk k h
  have := (hl _ q.2.1).2.1
  have e1 : A 9 k / 21 / 3 = B (109 + 3 * k) := by omega
  have e2 : A 9 k / 21 % 3 = B (110 + 3 * k) := by omega
  refine ⟨by omega, by omega, by omega, by omega, ?_, ?_⟩
  · rw [e1]; exact q.2.1.2
  · rw [e1, e2]; exact q.2.2.1.2
theorem lp_pa (d : Nat) (A s v : Mem) (h : RA A s) (hvs : Ff s v) (hn : NF A (v 146)) (by_ : Int) (hby : by_ = 1 ∨ by_ = -1) (hsb : ∀ j, 0 ≤ j ∧ j < 364 → -700000 ≤ v 147 j ∧ v 147 j ≤ 700000) (Q : Int → Mem → Prop) (hQ : ∀ u, Ff s u → NF A (u 146) → LF u → (∀ x b, 0 ≤ x ∧ x < 4 → 0 ≤ b ∧ b < 91 → u 147 (91 * x + b) = v 147 (91 * x + b) + if x < A 0 3 then by_ * sb A x b else 0) → Q 0 u) : ∀ (n : Nat) (k : Nat) (u : Mem), (k : Int) + n = A 0 5 → Fl v u → LF u → (∀ x b, 0 ≤ x ∧ x < 4 → 0 ≤ b ∧ b < 91 → u 147 (91 * x + b) = v 147 (91 * x + b) + if x < A 0 3 then by_ * sg (fun k => pt A (A 9 k) x b) 0 k else 0) → EV (d + 4) o_R_putsAll 6 [] [137, by_, k] u Q := by
  obtain ⟨⟨vc, vw, vs, vl, vn⟩, rc, rw_, rs, rl, rk⟩ := h
  have h1 := vc
  unfold VC at h1
  intro n
  induction n with
  | zero =>
    intro k u hk hf hl hu
    have g4 : u 138 4 = A 0 5 := by rw [Fl_cell hf (by omega) (by omega), Ff_cell hvs (by omega) (by omega) (by omega)]; exact rc.2.2.2.2.1
    have hq := hQ u (Ff_trans hvs (Ff_of hf)) (by rw [Fl_cell hf (by omega) (by omega)]; exact hn) hl (by
      intro x b hx hb
      rw [hu x b hx hb]
      unfold sb
      rw [show (A 0 5).toNat = k by omega])
    rw [e_R_putsAll_6]
    simp (disch := first | assumption | omega) only [rn, wk, al, wr_e, td_e, tm_e, mset_eq, mset_ne, if_pos, if_neg, Int.reduceAdd, Int.reduceSub, Int.reduceMul, Int.reduceNeg, Int.reduceLT, Int.reduceLE, Int.reduceEq, Int.cast_ofNat_Int, eq_self, and_true, true_and, ite_self, true_or, or_true, false_or, or_false, and_false, false_and, not_true_eq_false, not_false_eq_true, if_true, if_false, e_R_putsAll_0, e_R_putsAll_45, g4]
    exact hq
  | succ n ih =>
    intro k u hk hf hl hu
    have e138 : u 138 = s 138 := by rw [Fl_cell hf (by omega) (by omega), Ff_cell hvs (by omega) (by omega) (by omega)]
    have g4 : u 138 4 = A 0 5 := by rw [e138]; exact rc.2.2.2.2.1
    have q := rk k (by omega)
    have hkv := rk_v vc vl rk (k := k) (by omega)
    have e0 : u 138 (109 + 3 * (k : Int) + 0) = s 138 (109 + 3 * k) := by rw [e138, Int.add_zero]
    have e1 : u 138 (109 + 3 * (k : Int) + 1) = s 138 (110 + 3 * k) := by rw [e138]; congr 1; omega
    have e2 : u 138 (109 + 3 * (k : Int) + 2) = s 138 (111 + 3 * k) := by rw [e138]; congr 1; omega
    have hR : RB A u := ⟨⟨vc, vs, vl, vn⟩, by rw [e138]; exact rc, by rw [e138]; exact rs, by rw [e138]; exact rl, by rw [Fl_cell hf (by omega) (by omega)]; exact hn⟩
    have hub : ∀ j, 0 ≤ j ∧ j < 364 → -800000 ≤ u 147 j ∧ u 147 j ≤ 800000 := by
      intro j hj
      have q := hu (j / 91) (j % 91) (by omega) (by omega)
      rw [show 91 * (j / 91) + j % 91 = j by omega] at q
      have := hsb j hj
      rw [q]
      by_cases c1 : j / 91 < A 0 3
      · have := sg_bd (f := fun k => pt A (A 9 k) (j / 91) (j % 91)) (m := 99) k 0 (fun i a b => pt_ok ⟨vc, vs, vl, vn⟩ (rk_v vc vl rk (by omega)) (by omega))
        rw [if_pos c1]
        rcases hby with rfl | rfl <;> omega
      · rw [if_neg c1]; omega
    rw [e_R_putsAll_6]
    simp (disch := first | assumption | omega) only [rn, wk, al, wr_e, td_e, tm_e, mset_eq, mset_ne, if_pos, if_neg, Int.reduceAdd, Int.reduceSub, Int.reduceMul, Int.reduceNeg, Int.reduceLT, Int.reduceLE, Int.reduceEq, Int.cast_ofNat_Int, eq_self, and_true, true_and, ite_self, true_or, or_true, false_or, or_false, and_false, false_and, not_true_eq_false, not_false_eq_true, if_true, if_false, g4, q_callOf, e0, e1, e2]
    refine EV_call (CV_mono (q_puts d A u hR hl _ _ _ by_ q.2.1 q.2.2.1 q.2.2.2 hby hub) ?_)
    rintro r t ⟨t1, t2, t3⟩
    have hx := ih (k + 1) t (by omega) (Fl_trans hf t1) t2 (by
      intro x b hx hb
      rw [t3 x b hx hb, hu x b hx hb, ← q.1]
      by_cases c : x < A 0 3
      · rw [if_pos c, if_pos c, if_pos c, sg_last, Int.zero_add, Int.mul_add]; omega
      · rw [if_neg c, if_neg c, if_neg c, Int.add_zero])
    have ek : ((k + 1 : Nat) : Int) = (k : Int) + 1 := by omega
    rw [ek] at hx
    simp (disch := first | assumption | omega) only [rn, wk, al, wr_e, td_e, tm_e, mset_eq, mset_ne, if_pos, if_neg, Int.reduceAdd, Int.reduceSub, Int.reduceMul, Int.reduceNeg, Int.reduceLT, Int.reduceLE, Int.reduceEq, Int.cast_ofNat_Int, eq_self, and_true, true_and, ite_self, true_or, or_true, false_or, or_false, and_false, false_and, not_true_eq_false, not_false_eq_true, if_true, if_false]
    exact hx
theorem q_putsAll (d : Nat) (A s : Mem) (h : RA A s) (hl : LF s) (by_ : Int) (hby : by_ = 1 ∨ by_ = -1) (hsb : ∀ j, 0 ≤ j ∧ j < 364 → -700000 ≤ s 147 j ∧ s 147 j ≤ 700000) : CV (d + 5) 301 [137, by_] s fun _ u => Ff s u ∧ NF A (u 146) ∧ LF u ∧ ∀ x b, 0 ≤ x ∧ x < 4 → 0 ≤ b ∧ b < 91 → u 147 (91 * x + b) = s 147 (91 * x + b) + if x < A 0 3 then by_ * sb A x b else 0 := by
  have h' := h
  obtain ⟨⟨vc, vw, vs, vl, vn⟩, rc, rw_, rs, rl, rk⟩ := h'
  have h1 := vc
  unfold VC at h1
  apply c_R_putsAll
  simp (disch := first | assumption | omega) only [rn, wk, al, wr_e, td_e, tm_e, mset_eq, mset_ne, if_pos, if_neg, Int.reduceAdd, Int.reduceSub, Int.reduceMul, Int.reduceNeg, Int.reduceLT, Int.reduceLE, Int.reduceEq, Int.cast_ofNat_Int, eq_self, and_true, true_and, ite_self, true_or, or_true, false_or, or_false, and_false, false_and, not_true_eq_false, not_false_eq_true, if_true, if_false, e_R_putsAll_0, e_R_putsAll_45]
  refine EV_call (CV_mono (q_laysFar (d + 2) A s vc vw rc rw_) ?_)
  rintro r v ⟨f1, f2⟩
  have hn := nf_of vc vw vn f2
  have hvs : Ff s v := fun c i a b e => f1 c i b
  have e147 : ∀ j, v 147 j = s 147 j := fun j => f1 _ _ (by omega)
  have hlv : LF v := by
    unfold LF at hl ⊢
    have : v 147 = s 147 := funext e147
    rw [this, f1 _ _ (by omega), f1 _ _ (by omega)]; exact hl
  refine lp_pa d A s v h hvs hn by_ hby (fun j hj => by rw [e147]; exact hsb j hj) _ (fun u a b c e => ⟨a, b, c, fun x b' hx hb => by rw [e x b' hx hb, e147]⟩) (A 0 5).toNat 0 v (by omega) (fun _ _ _ _ => rfl) hlv ?_
  intro x b hx hb
  have : sg (fun k => pt A (A 9 k) x b) 0 0 = 0 := rfl
  rw [this, Int.mul_zero]
  split <;> omega
/-- what the reference has behind laysSums -/
def lsP (A s u : Mem) : Prop := Ff s u ∧ NF A (u 146) ∧ LF u ∧ ∀ x b, 0 ≤ x ∧ x < 4 → 0 ≤ b ∧ b < 91 → u 147 (91 * x + b) = if x < A 0 3 then sb A x b else 0
theorem q_laysSums (d : Nat) (A s : Mem) (h : RA A s) : CV (d + 6) 299 [137] s fun _ u => lsP A s u := by
  have h1 := h.1.1
  unfold VC at h1
  have rc := h.2.1
  unfold RC at rc
  apply c_R_laysSums
  simp (disch := first | assumption | omega) only [rn, wk, al, wr_e, td_e, tm_e, mset_eq, mset_ne, if_pos, if_neg, Int.reduceAdd, Int.reduceSub, Int.reduceMul, Int.reduceNeg, Int.reduceLT, Int.reduceLE, Int.reduceEq, Int.cast_ofNat_Int, eq_self, and_true, true_and, ite_self, true_or, or_true, false_or, or_false, and_false, false_and, not_true_eq_false, not_false_eq_true, if_true, if_false, e_R_laysSums_0]
  have l0 : ∀ j, llF s 0 j = 0 := fun j => by unfold llF; rw [if_neg (by omega)]
  refine EV_call (CV_mono (q_laysLeft (d + 4) s 0 (Or.inl rfl) (by omega) (fun j _ => by rw [l0]; omega)) ?_)
  rintro r t ⟨t1, t2, t3⟩
  refine EV_call (CV_mono (q_putsAll d A t (RA_congr (Fl_cell t1 (by omega) (by omega)) h) t2 1 (Or.inl rfl) (fun j hj => by rw [t3 j hj, l0]; omega)) ?_)
  rintro r' u ⟨u1, u2, u3, u4⟩
  simp (disch := first | assumption | omega) only [rn, wk, al, wr_e, td_e, tm_e, mset_eq, mset_ne, if_pos, if_neg, Int.reduceAdd, Int.reduceSub, Int.reduceMul, Int.reduceNeg, Int.reduceLT, Int.reduceLE, Int.reduceEq, Int.cast_ofNat_Int, eq_self, and_true, true_and, ite_self, true_or, or_true, false_or, or_false, and_false, false_and, not_true_eq_false, not_false_eq_true, if_true, if_false]
  refine ⟨Ff_trans (Ff_of t1) u1, u2, u3, ?_⟩
  intro x b hx hb
  rw [u4 x b hx hb, t3 _ (by omega), l0, Int.zero_add]
  by_cases c : x < A 0 3
  · rw [if_pos c, if_pos c, Int.one_mul]
  · rw [if_neg c, if_neg c]
theorem sg_plus {f : Int → Int} : ∀ (m n : Nat) (k : Int), sg f k (n + m) = sg f k n + sg f (k + n) m := by
  intro m n
  induction n with
  | zero => intro k; show sg f k (0 + m) = 0 + sg f (k + 0) m; rw [Nat.zero_add, Int.zero_add, Int.add_zero]
  | succ n ih =>
    intro k
    rw [show n + 1 + m = (n + m) + 1 by omega]
    show f k + sg f (k + 1) (n + m) = (f k + sg f (k + 1) n) + sg f (k + ((n + 1 : Nat) : Int)) m
    rw [ih (k + 1), show k + 1 + (n : Int) = k + ((n + 1 : Nat) : Int) by omega]; omega
theorem sg_zero : ∀ (n : Nat) (k : Int) (f : Int → Int), (∀ i, k ≤ i → i < k + n → f i = 0) → sg f k n = 0 := by
  intro n
  induction n with
  | zero => intros; rfl
  | succ n ih =>
    intro k f h
    show f k + sg f (k + 1) n = 0
    rw [h k (by omega) (by omega), ih (k + 1) f (fun i a b => h i (by omega) (by omega))]; rfl
theorem sg_add {f g : Int → Int} : ∀ (n : Nat) (k : Int), sg (fun i => f i + g i) k n = sg f k n + sg g k n := by
  intro n
  induction n with
  | zero => intros; rfl
  | succ n ih =>
    intro k
    show f k + g k + sg (fun i => f i + g i) (k + 1) n = (f k + sg f (k + 1) n) + (g k + sg g (k + 1) n)
    rw [ih]; omega
theorem sg_comm {F : Int → Int → Int} (m : Nat) (j : Int) : ∀ (n : Nat) (k : Int), sg (fun x => sg (fun b => F x b) j m) k n = sg (fun b => sg (fun x => F x b) k n) j m := by
  intro n
  induction n with
  | zero => intro k; symm; exact sg_zero m j _ (fun _ _ _ => rfl)
  | succ n ih =>
    intro k
    show sg (fun b => F k b) j m + sg (fun x => sg (fun b => F x b) j m) (k + 1) n = sg (fun b => F k b + sg (fun x => F x b) (k + 1) n) j m
    rw [ih (k + 1), ← sg_add]
theorem sg_shift {f : Int → Int} (c : Int) : ∀ (n : Nat) (k : Int), sg f (k + c) n = sg (fun i => f (i + c)) k n := by
  intro n
  induction n with
  | zero => intros; rfl
  | succ n ih =>
    intro k
    show f (k + c) + sg f (k + c + 1) n = f (k + c) + sg (fun i => f (i + c)) (k + 1) n
    rw [← ih (k + 1), show k + c + 1 = k + 1 + c by omega]
theorem sg_blk (f : Int → Int) (w : Nat) : ∀ (m : Nat), sg f 0 (w * m) = sg (fun x => sg (fun b => f (w * x + b)) 0 w) 0 m := by
  intro m
  induction m with
  | zero => rfl
  | succ m ih =>
    rw [show w * (m + 1) = w * m + w from Nat.mul_succ w m, sg_plus, ih, sg_last]
    congr 1
    rw [sg_shift ((w * m : Nat) : Int) w 0]
    apply sg_congr
    intro i _ _
    congr 1
    rw [Int.zero_add]
    have : ((w * m : Nat) : Int) = (w : Int) * (m : Int) := Int.natCast_mul w m
    rw [this]; omega
theorem sg_win (f : Int → Int) (g : Int) (h : 0 ≤ g ∧ g ≤ 88) : sg (fun b => if g ≤ b ∧ b < g + 3 then f (b - g) else 0) 0 91 = f 0 + f 1 + f 2 := by
  obtain ⟨n, rfl⟩ : ∃ n : Nat, g = n := ⟨g.toNat, by omega⟩
  rw [show (91 : Nat) = n + (3 + (88 - n)) by omega, sg_plus, sg_plus]
  rw [sg_zero n 0 _ (fun i a b => if_neg (by omega)), sg_zero (88 - n) _ _ (fun i a b => if_neg (by omega))]
  have e : ∀ F : Int → Int, ∀ k, sg F k 3 = F k + (F (k + 1) + (F (k + 1 + 1) + 0)) := fun _ _ => rfl
  rw [e, if_pos (by omega), if_pos (by omega), if_pos (by omega)]
  rw [show (0 : Int) + n - n = 0 by omega, show (0 : Int) + n + 1 - n = 1 by omega, show (0 : Int) + n + 1 + 1 - n = 2 by omega]; omega
theorem pt_sum {A : Mem} (hv : VB A) {v x : Int} (hk : vK A v) (hx : 0 ≤ x ∧ x < A 0 3) : sg (fun b => pt A v x b) 0 91 = aS A (v / 21) (A 5 x) := by
  have h0 := pt_bg hv (b := 0) hk hx (by omega)
  have hk0 := hk.1
  rcases h0 with ⟨q1, q2⟩ | ⟨q1, q2, q3, -⟩
  · rw [sg_zero 91 0 _ (fun i a b => by
      rcases pt_bg hv (b := i) hk hx (by omega) with p | p
      · exact p.2
      · omega)]
    unfold aS aP
    rw [show v / 21 / 3 = v / 63 by omega, if_neg (by omega), if_neg (by omega), if_neg (by omega)]; rfl
  · have hg := sg_win (aP A (v / 21) (A 5 x)) (v % 21 + dP A (v / 63) (A 5 x) / 1000) (by omega)
    unfold aS
    rw [← hg]
    apply sg_congr
    intro i a b
    rcases pt_bg hv (b := i) hk hx (by omega) with p | p
    · omega
    · exact p.2.2.2
theorem sb_sum {A : Mem} (hv : VB A) (hk : vKs A) {x : Int} (hx : 0 ≤ x ∧ x < A 0 3) : sg (fun b => sb A x b) 0 91 = tO A x := by
  have h1 := hv.1
  unfold VC at h1
  unfold sb tO
  rw [← sg_comm]
  apply sg_congr
  intro i a b
  exact pt_sum hv (hk i (by omega)) hx
theorem sb_ok {A : Mem} (hv : VB A) (hk : vKs A) {x : Int} (b : Int) (hx : 0 ≤ x ∧ x < A 0 3) : 0 ≤ sb A x b ∧ sb A x b ≤ 792 := by
  have h1 := hv.1
  unfold VC at h1
  have := sg_bd (f := fun k => pt A (A 9 k) x b) (m := 99) (A 0 5).toNat 0 (fun i a b => pt_ok hv (hk i (by omega)) hx)
  unfold sb; omega
