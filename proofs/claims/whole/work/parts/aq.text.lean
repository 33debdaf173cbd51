/-! ===== H2: the text: runs, names, words ===== -/
theorem lor_nm {x b : Int} (hx : 0 ≤ x ∧ x < 36028797018963968) (hb : 0 ≤ b ∧ b < 256) : lor_ (lshl_ x 8) b = 256 * x + b := by
  obtain ⟨n, rfl⟩ : ∃ n : Nat, x = n := ⟨x.toNat, by omega⟩
  obtain ⟨m, rfl⟩ : ∃ m : Nat, b = m := ⟨b.toNat, by omega⟩
  have e1 : lshl_ (n : Int) 8 = (BitVec.ofInt 64 (n : Int) <<< 8).toInt := rfl
  have e2 : ∀ y z : Int, lor_ y z = (BitVec.ofInt 64 y ||| BitVec.ofInt 64 z).toInt := fun y z => rfl
  rw [e2, e1, BitVec.ofInt_toInt, BitVec.ofInt_natCast, BitVec.ofInt_natCast]
  have h1 : (BitVec.ofNat 64 n <<< 8 ||| BitVec.ofNat 64 m).toNat = 256 * n + m := by
    rw [BitVec.toNat_or, BitVec.toNat_shiftLeft, BitVec.toNat_ofNat, BitVec.toNat_ofNat, Nat.mod_eq_of_lt (show n < 2 ^ 64 by omega), Nat.mod_eq_of_lt (show m < 2 ^ 64 by omega)]
    have h2 := Nat.shiftLeft_add_eq_or_of_lt (b := m) (i := 8) (by omega) n
    have h3 : n <<< 8 = n * 2 ^ 8 := Nat.shiftLeft_eq n 8
    rw [Nat.mod_eq_of_lt (show n <<< 8 < 2 ^ 64 by rw [h3]; omega), ← h2, h3]
    omega
  rw [BitVec.toInt_eq_toNat_of_lt (by rw [h1]; omega), h1]
  omega
/-- the end of a run of bytes from p on -/
def rnx (P : Int → Bool) (T : Int → Int) (n : Int) : Nat → Int → Int
  | 0, p => p
  | k + 1, p => if p < n ∧ P (T p) = true then rnx P T n k (p + 1) else p
def rux (P : Int → Bool) (T : Int → Int) (n p : Int) : Int := rnx P T n (n - p).toNat p
theorem rux_y {P : Int → Bool} {T : Int → Int} {n p : Int} (h : p < n) (hp : P (T p) = true) : rux P T n p = rux P T n (p + 1) := by
  unfold rux
  rw [show (n - p).toNat = (n - (p + 1)).toNat + 1 by omega]
  show (if p < n ∧ P (T p) = true then rnx P T n (n - (p + 1)).toNat (p + 1) else p) = _
  rw [if_pos ⟨h, hp⟩]
theorem rux_n {P : Int → Bool} {T : Int → Int} {n p : Int} (h : ¬ (p < n ∧ P (T p) = true)) : rux P T n p = p := by
  unfold rux
  generalize (n - p).toNat = k
  cases k with
  | zero => rfl
  | succ k => show (if p < n ∧ P (T p) = true then rnx P T n k (p + 1) else p) = p; rw [if_neg h]
theorem rnx_ok {P : Int → Bool} {T : Int → Int} {n : Int} : ∀ (k : Nat) (p : Int), k = (n - p).toNat → (p ≤ rux P T n p ∧ (p ≤ n → rux P T n p ≤ n)) ∧ (∀ i, p ≤ i → i < rux P T n p → P (T i) = true) ∧ ¬ (rux P T n p < n ∧ P (T (rux P T n p)) = true) := by
  intro k
  induction k with
  | zero =>
    intro p hk
    have e : rux P T n p = p := rux_n (fun h => by omega)
    rw [e]
    exact ⟨⟨by omega, fun h => h⟩, fun i a b => by omega, fun h => by omega⟩
  | succ k ih =>
    intro p hk
    by_cases c : p < n ∧ P (T p) = true
    · have e := rux_y c.1 c.2
      obtain ⟨a, b, d⟩ := ih (p + 1) (by omega)
      rw [e]
      refine ⟨⟨by omega, fun h => a.2 (by omega)⟩, fun i h1 h2 => ?_, d⟩
      by_cases ei : i = p
      · rw [ei]; exact c.2
      · exact b i (by omega) h2
    · rw [rux_n c]
      exact ⟨⟨by omega, fun h => h⟩, fun i a b => by omega, c⟩
theorem rux_ok {P : Int → Bool} {T : Int → Int} {n : Int} (p : Int) : (p ≤ rux P T n p ∧ (p ≤ n → rux P T n p ≤ n)) ∧ (∀ i, p ≤ i → i < rux P T n p → P (T i) = true) ∧ ¬ (rux P T n p < n ∧ P (T (rux P T n p)) = true) := rnx_ok (P := P) (T := T) (n := n) (n - p).toNat p rfl
def isB (c : Int) : Bool := decide (c = 10 ∨ c = 32)
def isL (c : Int) : Bool := decide (97 ≤ c ∧ c ≤ 122)
def isD (c : Int) : Bool := decide (48 ≤ c ∧ c ≤ 57)
theorem isB_i {c : Int} : isB c = true ↔ (c = 10 ∨ c = 32) := by unfold isB; exact decide_eq_true_iff
theorem isL_i {c : Int} : isL c = true ↔ (97 ≤ c ∧ c ≤ 122) := by unfold isL; exact decide_eq_true_iff
theorem isD_i {c : Int} : isD c = true ↔ (48 ≤ c ∧ c ≤ 57) := by unfold isD; exact decide_eq_true_iff
theorem rux_congr {P : Int → Bool} {T T' : Int → Int} {n : Int} (h : ∀ i, 0 ≤ i → i < n → T' i = T i) : ∀ (k : Nat) (p : Int), 0 ≤ p → rnx P T' n k p = rnx P T n k p := by
  intro k
  induction k with
  | zero => intro p _; rfl
  | succ k ih =>
    intro p hp
    show (if p < n ∧ P (T' p) = true then rnx P T' n k (p + 1) else p) = (if p < n ∧ P (T p) = true then rnx P T n k (p + 1) else p)
    rw [ih (p + 1) (by omega)]
    by_cases c : p < n
    · rw [h p hp c]
    · rw [if_neg (fun h => c h.1), if_neg (fun h => c h.1)]
/-- the bytes of a name as one number -/
def nmf (T : Int → Int) (q : Int) : Nat → Int
  | 0 => 0
  | k + 1 => lor_ (lshl_ (nmf T q k) 8) (T (q + k))
def nv (f : Int → Int) : Nat → Int
  | 0 => 0
  | k + 1 => 256 * nv f k + f k
def pw256 : Nat → Int
  | 0 => 1
  | k + 1 => 256 * pw256 k
theorem nv_b {f : Int → Int} : ∀ (k : Nat), (∀ i, 0 ≤ i → i < (k : Int) → 97 ≤ f i ∧ f i ≤ 122) → 0 ≤ nv f k ∧ nv f k < pw256 k ∧ (0 < k → 97 ≤ nv f k) := by
  intro k
  induction k with
  | zero => intro _; exact ⟨by show (0 : Int) ≤ 0; omega, by show (0 : Int) < 1; omega, fun h => by omega⟩
  | succ k ih =>
    intro h
    obtain ⟨a, b, c⟩ := ih (fun i h0 h1 => h i h0 (by omega))
    have := h k (by omega) (by omega)
    have e1 : nv f (k + 1) = 256 * nv f k + f k := rfl
    have e2 : pw256 (k + 1) = 256 * pw256 k := rfl
    rw [e1, e2]
    exact ⟨by omega, by omega, fun _ => by omega⟩
theorem pw_le : ∀ (k : Nat), k ≤ 6 → pw256 k ≤ 281474976710656
  | 0, _ => by decide
  | 1, _ => by decide
  | 2, _ => by decide
  | 3, _ => by decide
  | 4, _ => by decide
  | 5, _ => by decide
  | 6, _ => by decide
  | k + 7, h => by omega
theorem nmf_nv {T : Int → Int} {q : Int} : ∀ (k : Nat), k ≤ 8 → (∀ i, 0 ≤ i → i < (k : Int) → 97 ≤ T (q + i) ∧ T (q + i) ≤ 122) → nmf T q k = nv (fun i => T (q + i)) k := by
  intro k
  induction k with
  | zero => intro _ _; rfl
  | succ k ih =>
    intro hk h
    have e := ih (by omega) (fun i a b => h i a (by omega))
    have hb := nv_b (f := fun i => T (q + i)) k (fun i a b => h i a (by omega))
    have := h k (by omega) (by omega)
    have hlt : nv (fun i => T (q + i)) k < 36028797018963968 := by
      by_cases c : k ≤ 6
      · have := pw_le k c; omega
      · obtain rfl : k = 7 := by omega
        have b6 := nv_b (f := fun i => T (q + i)) 6 (fun i a b => h i a (by omega))
        have e7 : nv (fun i => T (q + i)) 7 = 256 * nv (fun i => T (q + i)) 6 + T (q + 6) := rfl
        have := h 6 (by omega) (by omega)
        have b5 := nv_b (f := fun i => T (q + i)) 5 (fun i a b => h i a (by omega))
        have e6 : nv (fun i => T (q + i)) 6 = 256 * nv (fun i => T (q + i)) 5 + T (q + 5) := rfl
        have := h 5 (by omega) (by omega)
        have b4 := nv_b (f := fun i => T (q + i)) 4 (fun i a b => h i a (by omega))
        have e5 : nv (fun i => T (q + i)) 5 = 256 * nv (fun i => T (q + i)) 4 + T (q + 4) := rfl
        have := h 4 (by omega) (by omega)
        have e4 : nv (fun i => T (q + i)) 4 = 256 * nv (fun i => T (q + i)) 3 + T (q + 3) := rfl
        have := h 3 (by omega) (by omega)
        have e3 : nv (fun i => T (q + i)) 3 = 256 * nv (fun i => T (q + i)) 2 + T (q + 2) := rfl
        have := h 2 (by omega) (by omega)
        have e2 : nv (fun i => T (q + i)) 2 = 256 * nv (fun i => T (q + i)) 1 + T (q + 1) := rfl
        have := h 1 (by omega) (by omega)
        have e1 : nv (fun i => T (q + i)) 1 = 256 * 0 + T (q + 0) := rfl
        have := h 0 (by omega) (by omega)
        omega
    show lor_ (lshl_ (nmf T q k) 8) (T (q + k)) = 256 * nv (fun i => T (q + i)) k + T (q + k)
    rw [e, lor_nm ⟨hb.1, hlt⟩ (by omega)]
theorem nv_inj {f g : Int → Int} : ∀ (k m : Nat), (∀ i, 0 ≤ i → i < (k : Int) → 97 ≤ f i ∧ f i ≤ 122) → (∀ i, 0 ≤ i → i < (m : Int) → 97 ≤ g i ∧ g i ≤ 122) → nv f k = nv g m → k = m ∧ ∀ i, 0 ≤ i → i < (k : Int) → f i = g i := by
  intro k
  induction k with
  | zero =>
    intro m _ hg h
    cases m with
    | zero => exact ⟨rfl, fun i a b => by omega⟩
    | succ m =>
      have := (nv_b (m + 1) hg).2.2 (by omega)
      have e : nv f 0 = 0 := rfl
      omega
  | succ k ih =>
    intro m hf hg h
    cases m with
    | zero =>
      have := (nv_b (k + 1) hf).2.2 (by omega)
      have e : nv g 0 = 0 := rfl
      omega
    | succ m =>
      have e1 : nv f (k + 1) = 256 * nv f k + f k := rfl
      have e2 : nv g (m + 1) = 256 * nv g m + g m := rfl
      have h1 := hf k (by omega) (by omega)
      have h2 := hg m (by omega) (by omega)
      obtain ⟨a, b⟩ := ih m (fun i x y => hf i x (by omega)) (fun i x y => hg i x (by omega)) (by omega)
      subst a
      refine ⟨rfl, fun i x y => ?_⟩
      by_cases c : i = k
      · rw [c]; omega
      · exact b i x (by omega)
/-- the class's number of a word -/
def wn_ (nm : Int) : Nat → Int → Int
  | 0, _ => -1
  | k + 1, j => if lget words j.toNat = nm then j else wn_ nm k (j + 1)
def kS : List Int := [1, 6, 12, 16, 22, 29, 33, 38, 43, 49, 52, 56, 61, 66, 73, 77, 82, 87, 91, 96, 102, 108]
def pim : List Int := [0, 1, 2, 7, 8, 3, 9, 4, 5, 6, 10, 11, 12, 13, 14, 15, 19, 20, 16, 17, 18]
def ipm : List Int := [0, 1, 2, 5, 7, 8, 9, 3, 4, 6, 10, 11, 12, 13, 14, 15, 18, 19, 20, 16, 17]
/-- the reference's number of a word, by the class's -/
def pm (w : Int) : Int := if 0 ≤ w then lget pim w.toNat else -1
theorem w_tab : ∀ j : Fin 21, lget words (lget ipm j.val).toNat = nv (fun i => lget keys ((lget kS j.val).toNat + i.toNat)) ((lget kS (j.val + 1)).toNat - 1 - (lget kS j.val).toNat) ∧ lget pim (lget ipm j.val).toNat = j.val ∧ (0 ≤ lget ipm j.val ∧ lget ipm j.val < 21) ∧ lget ipm (lget pim j.val).toNat = j.val ∧ (0 ≤ lget pim j.val ∧ lget pim j.val < 21) ∧ (1 ≤ lget kS j.val ∧ lget kS j.val + 1 < lget kS (j.val + 1) ∧ lget kS (j.val + 1) ≤ 108 ∧ lget kS (j.val + 1) - 1 - lget kS j.val ≤ 8) := by decide +kernel
theorem w_dis : ∀ i j : Fin 21, lget words i.val = lget words j.val → i = j := by decide +kernel
theorem k_tab : ∀ k : Fin 108, lget keys k.val = 32 ∨ (97 ≤ lget keys k.val ∧ lget keys k.val ≤ 122) := by decide +kernel
theorem k_sp : ∀ j : Fin 21, lget keys ((lget kS (j.val + 1)).toNat - 1) = 32 ∧ ∀ i : Fin 8, (lget kS j.val).toNat + i.val < (lget kS (j.val + 1)).toNat - 1 → lget keys ((lget kS j.val).toNat + i.val) ≠ 32 := by decide +kernel
theorem wn_f (nm : Int) : ∀ (k : Nat) (j : Int), 0 ≤ j → j + k = 21 → (wn_ nm k j = -1 ∧ ∀ i, j ≤ i → i < 21 → lget words i.toNat ≠ nm) ∨ ((j ≤ wn_ nm k j ∧ wn_ nm k j < 21) ∧ lget words (wn_ nm k j).toNat = nm) := by
  intro k
  induction k with
  | zero => intro j h0 hj; left; exact ⟨rfl, fun i a b => by omega⟩
  | succ k ih =>
    intro j h0 hj
    by_cases c : lget words j.toNat = nm
    · right
      have e : wn_ nm (k + 1) j = j := by show (if lget words j.toNat = nm then j else wn_ nm k (j + 1)) = j; rw [if_pos c]
      rw [e]; exact ⟨by omega, c⟩
    · have e : wn_ nm (k + 1) j = wn_ nm k (j + 1) := by show (if lget words j.toNat = nm then j else wn_ nm k (j + 1)) = _; rw [if_neg c]
      rw [e]
      rcases ih (j + 1) (by omega) (by omega) with ⟨a, b⟩ | ⟨a, b⟩
      · left
        refine ⟨a, fun i x y => ?_⟩
        by_cases ei : i = j
        · rw [ei]; exact c
        · exact b i (by omega) y
      · right; exact ⟨by omega, b⟩
