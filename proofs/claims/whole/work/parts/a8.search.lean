/-! ===== H2: the class searches ===== -/
def chs (f : Int → Int) : List Ent → Prop
  | [] => True
  | e :: P => f P.length = e.2.2 ∧ chs f P
theorem chs_mem {f : Int → Int} {v : Int} : ∀ P, chs f P → ((∃ j, (0 ≤ j ∧ j < (P.length : Int)) ∧ f j = v) ↔ v ∈ clls P)
  | [], _ => ⟨fun ⟨j, hj, _⟩ => by have : j < ((0 : Nat) : Int) := hj.2; omega, fun h => absurd h (by simp [clls])⟩
  | e :: P, h => by
    have ih := chs_mem (v := v) P h.2
    have el : ((e :: P).length : Int) = P.length + 1 := by simp
    rw [el]
    constructor
    · rintro ⟨j, hj, ej⟩
      by_cases c : j = P.length
      · rw [c, h.1] at ej; rw [← ej]; exact List.mem_cons_self ..
      · exact List.mem_cons_of_mem _ (ih.1 ⟨j, by omega, ej⟩)
    · intro hv
      rcases List.mem_cons.1 hv with k | k
      · exact ⟨P.length, by omega, by rw [k]; exact h.1⟩
      · obtain ⟨j, hj, ej⟩ := ih.2 k
        exact ⟨j, by omega, ej⟩
theorem chs_ne {f : Int → Int} : ∀ P, chs f P → Nd (clls P) → ∀ i j, 0 ≤ i → i < j → j < (P.length : Int) → f i ≠ f j
  | [], _, _, i, j, _, _, hj => by have : j < ((0 : Nat) : Int) := hj; omega
  | e :: P, h, hn, i, j, h0, hij, hj => by
    have el : ((e :: P).length : Int) = P.length + 1 := by simp
    rw [el] at hj
    by_cases c : j = P.length
    · rw [c, h.1]
      intro he
      exact hn.1 ((chs_mem P h.2).1 ⟨i, by omega, he⟩)
    · exact chs_ne P h.2 hn.2 i j h0 hij (by omega)
theorem chs_congr {f g : Int → Int} : ∀ P : List Ent, (∀ j, 0 ≤ j ∧ j < (P.length : Int) → f j = g j) → chs g P → chs f P
  | [], _, _ => trivial
  | e :: P, h, hc => by
    have el : ((e :: P).length : Int) = P.length + 1 := by simp
    rw [el] at h
    exact ⟨by rw [h _ (by omega)]; exact hc.1, chs_congr P (fun j hj => h j (by omega)) hc.2⟩
theorem sum2_z {F : Int → Int → Int} (h : ∀ x b, rng x b → 0 ≤ F x b) (hz : sum2 F = 0) (x b : Int) (hr : rng x b) : F x b = 0 := by
  have h1 := (sg_nn (f := fun x => sg (fun b => F x b) 0 91) 4 0 (fun x a c => (sg_nn 91 0 (fun b e f => h x b ⟨by omega, by omega⟩)).1)).2 hz x (by have := hr.1; omega) (by have := hr.1; omega)
  exact (sg_nn (f := fun b => F x b) 91 0 (fun b e f => h x b ⟨hr.1, by omega⟩)).2 h1 b (by have := hr.2; omega) (by have := hr.2; omega)
theorem sum2_0 {F : Int → Int → Int} (h : ∀ x b, rng x b → F x b = 0) : sum2 F = 0 := sg_zero 4 0 _ (fun x a c => sg_zero 91 0 _ (fun b e f => h x b ⟨by omega, by omega⟩))
theorem sum2_bd {F : Int → Int → Int} {m : Int} (h : ∀ x b, rng x b → 0 ≤ F x b ∧ F x b ≤ m) : 0 ≤ sum2 F ∧ sum2 F ≤ m * 364 := by
  have := sg_bd (f := fun x => sg (fun b => F x b) 0 91) (m := m * 91) 4 0 (fun x a c => by
    have := sg_bd (f := fun b => F x b) (m := m) 91 0 (fun b e f => h x b ⟨by omega, by omega⟩)
    exact ⟨this.1, by have := this.2; omega⟩)
  unfold sum2; exact ⟨this.1, by have := this.2; omega⟩
theorem tot_aS {A : Mem} (hv : VB A) {v : Int} (hk : vK A v) : tot A v = sg (fun x => aS A (v / 21) (A 5 x)) 0 (A 0 3).toNat := by
  have h1 := hv.1
  unfold VC at h1
  unfold tot sum2
  obtain ⟨N, hN⟩ : ∃ N : Nat, (N : Int) = A 0 3 := ⟨(A 0 3).toNat, by omega⟩
  rw [show (A 0 3).toNat = N by omega, show (4 : Nat) = N + (4 - N) by omega, sg_plus, sg_zero (4 - N) (0 + (N : Int)) _ (fun x a b => by
    show sg (fun b => pX A v x b) 0 91 = 0
    apply sg_zero
    intro b _ _
    show pX A v x b = 0
    unfold pX; rw [if_neg (by omega)]), Int.add_zero]
  apply sg_congr
  intro x a b
  show sg (fun b => pX A v x b) 0 91 = aS A (v / 21) (A 5 x)
  unfold pX
  simp only [if_pos (show x < A 0 3 by omega)]
  exact pt_sum hv hk (by omega)
def opens (A : Mem) (v x b : Int) : Prop := x < A 0 3 ∧ 0 ≤ opn A (v / 21) x ∧ v % 21 + bP A (v / 21) (A 5 x) + opn A (v / 21) x = b
theorem opens_cov {A : Mem} {v x b : Int} (h : opens A v x b) : 0 < pX A v x b := by
  obtain ⟨h1, h2, h3⟩ := h
  have hp := opn_p h2
  have h4 : opn A (v / 21) x < 3 := by
    rcases opn_f A (v / 21) x with h | h
    · omega
    · exact h.1.2
  rw [← h3, pX_at h1 ⟨h2, h4⟩]; exact hp
theorem cov_opens {A : Mem} (hv : VB A) {v x b : Int} {L : Int → Int → Int} (hk : vK A v) (hr : rng x b) (hc : 0 < pX A v x b) (hf : ∀ x b, rng x b → pX A v x b ≤ L x b) (hz : ∀ x' b', rng x' b' → 4 * b' + x' < 4 * b + x → L x' b' = 0) : opens A v x b := by
  obtain ⟨p1, p2, p3⟩ := pX_in hc
  have hr1 := hr.1
  have hr2 := hr.2
  have hq := hk.2.2
  have hk0 := hk.1
  rcases opn_f A (v / 21) x with ⟨o1, o2, o3, o4⟩ | ⟨o1, o2⟩
  · exfalso
    generalize b - v % 21 - bP A (v / 21) (A 5 x) = i at p2 p3
    obtain rfl | rfl | rfl : i = 0 ∨ i = 1 ∨ i = 2 := by omega
    · exact absurd p3 o2
    · exact absurd p3 o3
    · exact absurd p3 o4
  · refine ⟨p1, o1.1, ?_⟩
    have hbP := opn_bP hv hq ⟨hr1.1, p1⟩ o1.1
    by_cases c1 : b - v % 21 - bP A (v / 21) (A 5 x) < opn A (v / 21) x
    · exact absurd p3 (o2 _ (by omega))
    · by_cases c2 : opn A (v / 21) x = b - v % 21 - bP A (v / 21) (A 5 x)
      · omega
      · exfalso
        have e := pX_at (A := A) (v := v) (x := x) (i := opn A (v / 21) x) p1 o1
        have hp := opn_p o1.1
        have r2 : rng x (v % 21 + bP A (v / 21) (A 5 x) + opn A (v / 21) x) := ⟨hr1, by omega⟩
        have h1 := hf x (v % 21 + bP A (v / 21) (A 5 x) + opn A (v / 21) x) r2
        have h2 := hz x (v % 21 + bP A (v / 21) (A 5 x) + opn A (v / 21) x) r2 (by omega)
        omega
/-- how a node of the class's search stands -/
def CI (A : Mem) (P : List Ent) (f h : Int) : Prop := (0 ≤ f ∧ f < 364) ∧ (-1 ≤ h ∧ h < 15) ∧ (∀ x b, rng x b → 4 * b + x < f → Lf A P x b = 0) ∧ (∀ e, e ∈ P → 4 * e.2.1 + e.1 < f ∨ (4 * e.2.1 + e.1 = f ∧ e.2.2 / 21 ≤ h)) ∧ (0 ≤ h → ∃ e, e ∈ P ∧ 4 * e.2.1 + e.1 = f ∧ e.2.2 / 21 = h ∧ opens A e.2.2 e.1 e.2.1 ∧ rng e.1 e.2.1)
def CJ (A t : Mem) (P : List Ent) (n so : Int) : Prop := PG A t ∧ (∀ x b, rng x b → t 18 (4 * b + x) = Lf A P x b) ∧ t 14 7 = sum2 (Lf A P) ∧ ((0 ≤ t 14 8 ∧ t 14 8 ≤ 2000) ∧ ∀ v, vK A v → tot A v ≤ t 14 8) ∧ t 14 5 = n ∧ t 14 6 = so ∧ chs (t 16) P
def Fsr (s t : Mem) : Prop := ∀ c i, ¬ (15 ≤ c ∧ c ≤ 18) → ¬ (c = 14 ∧ ((0 ≤ i ∧ i ≤ 3) ∨ i = 7)) → t c i = s c i
def Mb : Nat → Int
  | 0 => 1
  | k + 1 => 15 * Mb k
theorem Mb_p : ∀ k, 1 ≤ Mb k
  | 0 => by show (1 : Int) ≤ 1; omega
  | k + 1 => by have := Mb_p k; show (1 : Int) ≤ 15 * Mb k; omega
def Nb (N : Ntt) (M : Int) : Prop := (0 ≤ N.1 ∧ N.1 + M ≤ 1000000) ∧ (0 ≤ N.2.1 ∧ N.2.1 + M ≤ 1000000) ∧ (0 ≤ N.2.2.1 ∧ N.2.2.1 ≤ 5)
theorem fd_least (so : Int) : ∀ (l : List (List Int)) (N : Ntt), (0 ≤ N.2.2.1 ∧ N.2.2.1 ≤ 5) → 0 ≤ (l.foldl (nt so) N).2.2.1 ∧ (l.foldl (nt so) N).2.2.1 ≤ 5
  | [], _, h => h
  | T :: l, N, h => fd_least so l (nt so N T) (by show 0 ≤ min N.2.2.1 (T.length : Int) ∧ min N.2.2.1 (T.length : Int) ≤ 5; omega)
theorem Nb_fd {so : Int} {N : Ntt} {M K : Int} {l : List (List Int)} (h : Nb N M) (hl : (l.length : Int) + K ≤ M) : Nb (l.foldl (nt so) N) K := by
  obtain ⟨a, b, c⟩ := fd_len so l N
  obtain ⟨h1, h2, h3⟩ := h
  exact ⟨by omega, by omega, fd_least so l N h3⟩
/-- the answers of the kinds ahead of q -/
def EQ (A : Mem) (n : Int) (P : List Ent) (x b q : Int) (l : List (List Int)) : Prop := Nd l ∧ ∀ T, T ∈ l ↔ ∃ v, cand A P x b v ∧ v / 21 < q ∧ ND A n ((x, b, v) :: P) T
theorem eq_same {A : Mem} {n : Int} {P : List Ent} {x b q : Int} {l : List (List Int)} (h : EQ A n P x b q l) (hn : ∀ v T, cand A P x b v → v / 21 = q → ¬ ND A n ((x, b, v) :: P) T) : EQ A n P x b (q + 1) l := by
  refine ⟨h.1, fun T => ?_⟩
  rw [h.2 T]
  constructor
  · rintro ⟨v, a, c, e⟩; exact ⟨v, a, by omega, e⟩
  · rintro ⟨v, a, c, e⟩
    by_cases k : v / 21 < q
    · exact ⟨v, a, k, e⟩
    · exact absurd e (hn v T a (by omega))
theorem eq_more {A : Mem} {n : Int} {P : List Ent} {x b q v : Int} {l m : List (List Int)} (h : EQ A n P x b q l) (hc : cand A P x b v) (hq : v / 21 = q) (hm : EN A n ((x, b, v) :: P) m) (hu : ∀ w T, cand A P x b w → w / 21 = q → ND A n ((x, b, w) :: P) T → w = v) : EQ A n P x b (q + 1) (l ++ m) := by
  refine ⟨Nd_app l m h.1 hm.1 (fun T h1 h2 => ?_), fun T => ?_⟩
  · obtain ⟨w, a, c, e⟩ := (h.2 T).1 h1
    have := nd_uniq a hc e ((hm.2 T).1 h2)
    subst this
    omega
  · rw [List.mem_append, h.2 T, hm.2 T]
    constructor
    · rintro (⟨w, a, c, e⟩ | e)
      · exact ⟨w, a, by omega, e⟩
      · exact ⟨v, hc, by omega, e⟩
    · rintro ⟨w, a, c, e⟩
      by_cases k : w / 21 < q
      · left; exact ⟨w, a, k, e⟩
      · right
        have := hu w T a (by omega) e
        rw [← this]; exact e
theorem eq_done {A : Mem} (hv : VB A) {n : Int} {P : List Ent} {x b : Int} (hr : rng x b) (hL : 0 < Lf A P x b) {l : List (List Int)} (h : EQ A n P x b 15 l) : EN A n P l := by
  refine ⟨h.1, fun T => ?_⟩
  rw [h.2 T, nd_step hv hr hL]
  constructor
  · rintro ⟨v, a, c, e⟩; exact ⟨v, a, e⟩
  · rintro ⟨v, a, e⟩; exact ⟨v, a, by have := a.1.2.1; omega, e⟩
def Spost (A s t : Mem) (P : List Ent) (n so : Int) (N : Ntt) (M : Int) : Prop := Fsr s t ∧ (∀ j, 0 ≤ j ∧ j < (P.length : Int) → t 16 j = s 16 j) ∧ (∀ x b, rng x b → t 18 (4 * b + x) = Lf A P x b) ∧ t 14 7 = s 14 7 ∧ ∃ l, EN A n P l ∧ (l.length : Int) ≤ M ∧ NtC (l.foldl (nt so) N) t
theorem CJ_sp {A s t : Mem} {P : List Ent} {n so : Int} (hJ : CJ A s P n so) (hF : Fsr s t) (h16 : ∀ j, 0 ≤ j ∧ j < (P.length : Int) → t 16 j = s 16 j) (h18 : ∀ x b, rng x b → t 18 (4 * b + x) = Lf A P x b) (h7 : t 14 7 = s 14 7) : CJ A t P n so := by
  obtain ⟨j1, j2, j3, j4, j5, j6, j7⟩ := hJ
  exact ⟨PG_congr (fun c i hc => hF _ _ (by omega) (by omega)) j1, h18, by rw [h7]; exact j3, by rw [hF _ _ (by omega) (by omega)]; exact j4, by rw [hF _ _ (by omega) (by omega)]; exact j5, by rw [hF _ _ (by omega) (by omega)]; exact j6, chs_congr P h16 j7⟩
