/-! ===== H2: answers, the nodes of both searches ===== -/
def rng (x b : Int) : Prop := (0 ≤ x ∧ x < 4) ∧ (0 ≤ b ∧ b < 91)
abbrev Ent := Int × Int × Int
def clls (P : List Ent) : List Int := P.map (fun e => e.2.2)
def SolT (A : Mem) (n : Int) (T : List Int) : Prop := Srt T ∧ (∀ v, v ∈ T → vK A v ∧ ∃ x b, rng x b ∧ 0 < pX A v x b) ∧ (T.length : Int) ≤ n ∧ ∀ x b, rng x b → iS T (fun v => pX A v x b) = A 10 (4 * b + x)
def ND (A : Mem) (n : Int) (P : List Ent) (T : List Int) : Prop := SolT A n T ∧ (∀ v, v ∈ clls P → v ∈ T) ∧ ∀ w, w ∈ T → w ∉ clls P → ∀ e, e ∈ P → 0 < pX A w e.1 e.2.1 → e.2.2 < w
def cand (A : Mem) (P : List Ent) (x b v : Int) : Prop := vK A v ∧ v ∉ clls P ∧ 0 < pX A v x b ∧ rng x b ∧ ∀ e, e ∈ P → 0 < pX A v e.1 e.2.1 → e.2.2 < v
def PW (A : Mem) : List Ent → Prop
  | [] => True
  | e :: P => PW A P ∧ cand A P e.1 e.2.1 e.2.2
/-- what is left when the calls of a path are taken away -/
def Lf (A : Mem) (P : List Ent) (x b : Int) : Int := A 10 (4 * b + x) - iS (clls P) (fun v => pX A v x b)
theorem PW_nd {A : Mem} : ∀ P, PW A P → Nd (clls P) ∧ ∀ v, v ∈ clls P → vK A v ∧ ∃ x b, rng x b ∧ 0 < pX A v x b
  | [], _ => ⟨trivial, fun v h => absurd h (by simp [clls])⟩
  | e :: P, h => by
    obtain ⟨i1, i2⟩ := PW_nd P h.1
    refine ⟨⟨h.2.2.1, i1⟩, fun v hv => ?_⟩
    rcases List.mem_cons.1 hv with k | k
    · rw [k]; exact ⟨h.2.1, e.1, e.2.1, h.2.2.2.2.1, h.2.2.2.1⟩
    · exact i2 v k
theorem vK_r {A : Mem} {v : Int} (h : vK A v) : 0 ≤ v ∧ v < 315 := ⟨h.1, h.2.1⟩
theorem Lf_cons {A : Mem} {P : List Ent} {e : Ent} (hc : cand A P e.1 e.2.1 e.2.2) (x b : Int) : Lf A (e :: P) x b = Lf A P x b - pX A e.2.2 x b := by
  have h := iS_cons (f := fun v => pX A v x b) (vK_r hc.1) hc.2.1
  unfold Lf
  show A 10 (4 * b + x) - iS (e.2.2 :: clls P) (fun v => pX A v x b) = _
  rw [h]; omega
theorem nd_le {A : Mem} (hv : VB A) {n : Int} {P : List Ent} {T : List Int} (h : ND A n P T) {x b : Int} (hr : rng x b) : 0 ≤ Lf A P x b := by
  have := iS_le (f := fun v => pX A v x b) h.2.1 (fun v hT => (pX_ok hv (h.1.2.1 v hT).1 hr.1.1).1)
  have e := h.1.2.2.2 x b hr
  unfold Lf; omega
theorem nd_len {A : Mem} {n : Int} {P : List Ent} {T : List Int} (hP : PW A P) (h : ND A n P T) {x b : Int} (hr : rng x b) (hL : 0 < Lf A P x b) : (P.length : Int) + 1 ≤ n := by
  obtain ⟨p1, p2⟩ := PW_nd P hP
  have e := h.1.2.2.2 x b hr
  have hlt : iS (clls P) (fun v => pX A v x b) < iS T (fun v => pX A v x b) := by unfold Lf at hL; omega
  obtain ⟨w, w1, w2, w3⟩ := iS_ex h.2.1 hlt
  have c1 := iS_const 1 T (srt_nd T h.1.1) (fun v hT => vK_r (h.1.2.1 v hT).1)
  have c2 := iS_const 1 (w :: clls P) ⟨w2, p1⟩ (fun v hT => by
    rcases List.mem_cons.1 hT with k | k
    · rw [k]; exact vK_r (h.1.2.1 w w1).1
    · exact vK_r (p2 v k).1)
  have c3 := iS_le (C := w :: clls P) (T := T) (f := fun _ => 1) (fun v hT => by
    rcases List.mem_cons.1 hT with k | k
    · rw [k]; exact w1
    · exact h.2.1 v k) (fun _ _ => by omega)
  rw [c1, c2] at c3
  have : ((w :: clls P).length : Int) = P.length + 1 := by simp [clls]
  have := h.1.2.2.1
  omega
theorem nd_leaf {A : Mem} (hv : VB A) {n : Int} {P : List Ent} (hP : PW A P) (h0 : ∀ x b, rng x b → Lf A P x b = 0) {T0 : List Int} (s0 : Srt T0) (m0 : ∀ v, v ∈ T0 ↔ v ∈ clls P) (l0 : (T0.length : Int) ≤ n) (T : List Int) : ND A n P T ↔ T = T0 := by
  obtain ⟨p1, p2⟩ := PW_nd P hP
  constructor
  · intro h
    refine srt_ext T T0 h.1.1 s0 (fun v => ⟨fun hT => ?_, fun hT => h.2.1 v ((m0 v).1 hT)⟩)
    by_cases c : v ∈ clls P
    · exact (m0 v).2 c
    · exfalso
      obtain ⟨k1, x, b, k2, k3⟩ := h.1.2.1 v hT
      have e := h.1.2.2.2 x b k2
      have e0 := h0 x b k2
      have c3 := iS_le (C := v :: clls P) (T := T) (f := fun v => pX A v x b) (fun w hw => by
        rcases List.mem_cons.1 hw with k | k
        · rw [k]; exact hT
        · exact h.2.1 w k) (fun w hw => (pX_ok hv (h.1.2.1 w hw).1 k2.1.1).1)
      rw [iS_cons (vK_r k1) c] at c3
      unfold Lf at e0
      have c3' : pX A v x b + iS (clls P) (fun v => pX A v x b) ≤ iS T (fun v => pX A v x b) := c3
      omega
  · intro h
    subst h
    refine ⟨⟨s0, fun v hT => p2 v ((m0 v).1 hT), l0, fun x b hr => ?_⟩, fun v hT => (m0 v).2 hT, fun w hw hn => absurd ((m0 w).1 hw) hn⟩
    have e0 := h0 x b hr
    rw [iS_mem m0]
    unfold Lf at e0; omega
theorem least_ex {p : Int → Prop} : ∀ (n : Nat) (w : Int), 0 ≤ w → w < n → p w → ∃ v, 0 ≤ v ∧ p v ∧ ∀ w', 0 ≤ w' → p w' → v ≤ w' := by
  intro n
  induction n with
  | zero => intro w h1 h2; omega
  | succ n ih =>
    intro w h1 h2 hp
    by_cases c : ∃ w', 0 ≤ w' ∧ w' < (n : Int) ∧ p w'
    · obtain ⟨w', a, b, e⟩ := c
      exact ih w' a b e
    · refine ⟨w, h1, hp, fun w' a b => ?_⟩
      by_cases k : w' < (n : Int)
      · exact absurd ⟨w', a, k, b⟩ c
      · omega
theorem nd_step {A : Mem} (hv : VB A) {n : Int} {P : List Ent} {x b : Int} (hr : rng x b) (hL : 0 < Lf A P x b) (T : List Int) : ND A n P T ↔ ∃ v, cand A P x b v ∧ ND A n ((x, b, v) :: P) T := by
  constructor
  · intro h
    have e := h.1.2.2.2 x b hr
    have hlt : iS (clls P) (fun v => pX A v x b) < iS T (fun v => pX A v x b) := by unfold Lf at hL; omega
    obtain ⟨w, w1, w2, w3⟩ := iS_ex h.2.1 hlt
    have hw := vK_r (h.1.2.1 w w1).1
    obtain ⟨v, v0, ⟨v1, v2, v3⟩, v4⟩ := least_ex (p := fun w => w ∈ T ∧ w ∉ clls P ∧ 0 < pX A w x b) 315 w hw.1 hw.2 ⟨w1, w2, w3⟩
    refine ⟨v, ⟨(h.1.2.1 v v1).1, v2, v3, hr, fun e he hp => h.2.2 v v1 v2 e he hp⟩, h.1, fun u hu => ?_, fun u hu hn e he hp => ?_⟩
    · rcases List.mem_cons.1 hu with k | k
      · rw [k]; exact v1
      · exact h.2.1 u k
    · have hn' : u ∉ clls P := fun hh => hn (List.mem_cons_of_mem _ hh)
      have hne : u ≠ v := fun hh => hn (by rw [hh]; exact List.mem_cons_self ..)
      rcases List.mem_cons.1 he with k | k
      · rw [k] at hp ⊢
        have hp' : 0 < pX A u x b := hp
        have := v4 u (vK_r (h.1.2.1 u hu).1).1 ⟨hu, hn', hp'⟩
        show v < u
        omega
      · exact h.2.2 u hu hn' e k hp
  · rintro ⟨v, hc, h⟩
    refine ⟨h.1, fun u hu => h.2.1 u (List.mem_cons_of_mem _ hu), fun u hu hn e he hp => ?_⟩
    by_cases c : u = v
    · rw [c] at hp ⊢; exact hc.2.2.2.2 e he hp
    · exact h.2.2 u hu (fun hh => by
        rcases List.mem_cons.1 hh with k | k
        · exact c k
        · exact hn k) e (List.mem_cons_of_mem _ he) hp
theorem nd_uniq {A : Mem} {n : Int} {P : List Ent} {x b v w : Int} {T : List Int} (hv : cand A P x b v) (hw : cand A P x b w) (h1 : ND A n ((x, b, v) :: P) T) (h2 : ND A n ((x, b, w) :: P) T) : v = w := by
  by_cases c : v = w
  · exact c
  · exfalso
    have a := h1.2.2 w (h2.2.1 w (List.mem_cons_self ..)) (fun hh => by
      rcases List.mem_cons.1 hh with k | k
      · exact c k.symm
      · exact hw.2.1 k) (x, b, v) (List.mem_cons_self ..) hw.2.2.1
    have b' := h2.2.2 v (h1.2.1 v (List.mem_cons_self ..)) (fun hh => by
      rcases List.mem_cons.1 hh with k | k
      · exact c k
      · exact hv.2.1 k) (x, b, w) (List.mem_cons_self ..) hv.2.2.1
    have a' : v < w := a
    have b'' : w < v := b'
    omega
/-- all that is heard of a call -/
def tot (A : Mem) (v : Int) : Int := sum2 (fun x b => pX A v x b)
theorem sum2_sg (h : Int → Int → Int → Int) (n : Nat) : sum2 (fun x b => sg (fun v => h v x b) 0 n) = sg (fun v => sum2 (h v)) 0 n := by
  unfold sum2
  have e : ∀ x, sg (fun b => sg (fun v => h v x b) 0 n) 0 91 = sg (fun v => sg (fun b => h v x b) 0 91) 0 n := fun x => sg_comm (F := fun b v => h v x b) n 0 91 0
  simp only [e]
  exact sg_comm (F := fun x v => sg (fun b => h v x b) 0 91) n 0 4 0
theorem nd_prune {A : Mem} (hv : VB A) {n G : Int} {P : List Ent} (hP : PW A P) (hG : ∀ v, vK A v → tot A v ≤ G) (hlt : (n - P.length) * G < sum2 (Lf A P)) (hG0 : 0 ≤ G) (T : List Int) : ¬ ND A n P T := by
  intro h
  obtain ⟨p1, p2⟩ := PW_nd P hP
  have e1 : sum2 (Lf A P) = sum2 (fun x b => sg (fun v => (if v ∈ T then pX A v x b else 0) - (if v ∈ clls P then pX A v x b else 0)) 0 315) := by
    apply sum2_congr
    intro x b hx hb
    have e := h.1.2.2.2 x b ⟨hx, hb⟩
    rw [sg_sub]
    unfold Lf
    rw [← e]; rfl
  have e2 : sum2 (Lf A P) ≤ iS T (fun _ => G) - iS (clls P) (fun _ => G) := by
    rw [e1, sum2_sg (fun v x b => (if v ∈ T then pX A v x b else 0) - (if v ∈ clls P then pX A v x b else 0))]
    unfold iS
    rw [← sg_sub]
    apply sg_mono
    intro v _ _
    show sum2 (fun x b => (if v ∈ T then pX A v x b else 0) - (if v ∈ clls P then pX A v x b else 0)) ≤ (if v ∈ T then G else 0) - (if v ∈ clls P then G else 0)
    by_cases c : v ∈ clls P
    · simp only [if_pos c, if_pos (h.2.1 v c), Int.sub_self]
      have : sum2 (fun _ _ => 0) = 0 := sg_zero 4 0 _ (fun _ _ _ => sg_zero 91 0 _ (fun _ _ _ => rfl))
      rw [this]; omega
    · simp only [if_neg c, Int.sub_zero]
      by_cases c2 : v ∈ T
      · simp only [if_pos c2]; exact hG v (h.1.2.1 v c2).1
      · simp only [if_neg c2]
        have : sum2 (fun _ _ => 0) = 0 := sg_zero 4 0 _ (fun _ _ _ => sg_zero 91 0 _ (fun _ _ _ => rfl))
        rw [this]; omega
  rw [iS_const G T (srt_nd T h.1.1) (fun v hT => vK_r (h.1.2.1 v hT).1), iS_const G (clls P) p1 (fun v hT => vK_r (p2 v hT).1)] at e2
  have e3 : ((clls P).length : Int) = P.length := by simp [clls]
  rw [e3, ← Int.mul_sub] at e2
  have l := h.1.2.2.1
  have e4 : G * ((T.length : Int) - P.length) ≤ G * (n - P.length) := Int.mul_le_mul_of_nonneg_left (by omega) hG0
  rw [Int.mul_comm (n - (P.length : Int)) G] at hlt
  omega
/-- a list of all the answers at a node -/
def EN (A : Mem) (n : Int) (P : List Ent) (l : List (List Int)) : Prop := Nd l ∧ ∀ T, T ∈ l ↔ ND A n P T
theorem en_nil {A : Mem} {n : Int} {P : List Ent} (h : ∀ T, ¬ ND A n P T) : EN A n P [] := ⟨trivial, fun T => ⟨fun hh => absurd hh (by simp), fun hh => absurd hh (h T)⟩⟩
theorem en_one {A : Mem} {n : Int} {P : List Ent} {T0 : List Int} (h : ∀ T, ND A n P T ↔ T = T0) : EN A n P [T0] := ⟨⟨by simp, trivial⟩, fun T => by rw [h T]; simp⟩
