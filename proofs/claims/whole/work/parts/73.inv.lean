/-! ===== H2: the invariant. A: the class's hall (A k i: place i of its cell k), B: the reference's slot, N: its names ===== -/
def win (s : Mem) (h : Int) : Mem := fun k i => s (h + k) i
def VC (A : Mem) : Prop := (0 ≤ A 0 0 ∧ A 0 0 ≤ 16) ∧ (0 ≤ A 0 1 ∧ A 0 1 ≤ 7) ∧ (0 ≤ A 0 2 ∧ A 0 2 ≤ 10) ∧ (0 ≤ A 0 3 ∧ A 0 3 ≤ 4) ∧ (0 ≤ A 0 4 ∧ A 0 4 ≤ 5) ∧ (0 ≤ A 0 5 ∧ A 0 5 ≤ 8) ∧ (0 ≤ A 0 6 ∧ A 0 6 ≤ 1)
def VW (A : Mem) : Prop := ∀ w, 0 ≤ w ∧ w < A 0 2 → (0 ≤ A 2 (2 * w) ∧ A 2 (2 * w) < A 0 1) ∧ (0 ≤ A 2 (2 * w + 1) ∧ A 2 (2 * w + 1) < A 0 1) ∧ (1 ≤ A 3 w ∧ A 3 w ≤ 9) ∧ (0 ≤ A 4 w ∧ A 4 w ≤ 9) ∧ A 2 (2 * w) ≠ A 2 (2 * w + 1)
def VS (A : Mem) : Prop := ∀ i, 0 ≤ i ∧ i < A 0 3 → 0 ≤ A 5 i ∧ A 5 i < A 0 1
def VL (A : Mem) : Prop := ∀ c, 0 ≤ c ∧ c < A 0 4 → (0 ≤ A 6 c ∧ A 6 c < A 0 1) ∧ (0 ≤ A 7 c ∧ A 7 c ≤ 3) ∧ ∀ k i, 0 ≤ k ∧ k < A 7 c → 0 ≤ i ∧ i < 3 → 0 ≤ A 8 (9 * c + 3 * k + i) ∧ A 8 (9 * c + 3 * k + i) ≤ 99
def VU (A : Mem) : Prop := A 0 6 = 1 → ∀ x b, 0 ≤ x ∧ x < 4 → 0 ≤ b ∧ b < 91 → (0 ≤ A 10 (4 * b + x) ∧ A 10 (4 * b + x) ≤ 999) ∧ (A 0 3 ≤ x → A 10 (4 * b + x) = 0)
/-- a walk of n ways, with its beats and its loss -/
def wk_ (A : Mem) : Nat → Int → Int → Int → Int → Prop
  | 0, a, b, x, y => a = b ∧ x = 0 ∧ y = 0
  | n + 1, a, b, x, y => ∃ w c, (0 ≤ w ∧ w < A 0 2) ∧ ((A 2 (2 * w) = a ∧ A 2 (2 * w + 1) = c) ∨ (A 2 (2 * w) = c ∧ A 2 (2 * w + 1) = a)) ∧ wk_ A n c b (x - A 3 w) (y - A 4 w)
/-- the fewest beats, and of these the least loss -/
def dst (A : Mem) (a b x y : Int) : Prop := (∃ n, wk_ A n a b x y) ∧ ∀ n x' y', wk_ A n a b x' y' → x < x' ∨ (x = x' ∧ y ≤ y')
def VN (A : Mem) : Prop := ∀ a b, 0 ≤ a ∧ a < A 0 1 → 0 ≤ b ∧ b < A 0 1 → (A 11 (7 * a + b) = 10000000 ∧ ∀ n x y, ¬ wk_ A n a b x y) ∨ ∃ x y, dst A a b x y ∧ A 11 (7 * a + b) = 1000 * x + y ∧ (0 ≤ x ∧ x ≤ 54) ∧ (0 ≤ y ∧ y ≤ 54)
/-- the row n of the mornings -/
def VR (A : Mem) (n : Int) : Prop :=
  (A 13 n = 10 ∧ (0 ≤ A 15 n ∧ A 15 n < A 0 4) ∧ (0 ≤ A 16 n ∧ A 16 n ≤ 2) ∧ (0 ≤ A 18 n ∧ A 18 n ≤ 20)) ∨
  (A 13 n = 12 ∧ (0 ≤ A 15 n ∧ A 15 n < A 0 4) ∧ (0 ≤ A 16 n ∧ A 16 n < A 0 1)) ∨
  (A 13 n = 11 ∨ A 13 n = 13 ∨ A 13 n = 14 ∨ A 13 n = 20) ∨
  (A 13 n = 15 ∧ (n < A 19 n ∧ A 19 n < A 12 2 ∧ A 13 (A 19 n) = 19 ∧ A 19 (A 19 n) = n) ∧ ((A 14 n = 16 ∧ (0 ≤ A 15 n ∧ A 15 n < A 0 3) ∧ (0 ≤ A 16 n ∧ A 16 n ≤ 90) ∧ (60 ≤ A 17 n ∧ A 17 n ≤ 62) ∧ (0 ≤ A 18 n ∧ A 18 n ≤ 999)) ∨ (A 14 n = 6 ∧ (0 ≤ A 15 n ∧ A 15 n < A 0 4) ∧ (0 ≤ A 16 n ∧ A 16 n < A 0 1)) ∨ (A 14 n = 17 ∧ (60 ≤ A 17 n ∧ A 17 n ≤ 62) ∧ (0 ≤ A 18 n ∧ A 18 n ≤ 8)))) ∨
  (A 13 n = 18 ∧ (n < A 19 n ∧ A 19 n < A 12 2 ∧ A 13 (A 19 n) = 19 ∧ A 19 (A 19 n) = n) ∧ (A 13 (n + 1) = 19 → A 19 n = n + 1) ∧ (1 ≤ A 18 n ∧ A 18 n ≤ 99)) ∨
  (A 13 n = 19 ∧ (0 ≤ A 19 n ∧ A 19 n < n) ∧ (A 13 (A 19 n) = 15 ∨ A 13 (A 19 n) = 18) ∧ A 19 (A 19 n) = n)
/-- what is opened within another is closed within it -/
def NS (A : Mem) : Prop := ∀ n m, 0 ≤ n → n < m → m < A 12 2 → (A 13 n = 15 ∨ A 13 n = 18) → m < A 19 n → (A 13 m = 15 ∨ A 13 m = 18) → A 19 m < A 19 n
def VT (A : Mem) : Prop := (0 ≤ A 12 0 ∧ A 12 0 ≤ 1) ∧ (A 12 0 = 1 → (0 ≤ A 12 2 ∧ A 12 2 ≤ 60) ∧ (∀ n, 0 ≤ n ∧ n < A 12 2 → VR A n) ∧ NS A)
def VA (A : Mem) : Prop := VC A ∧ VW A ∧ VS A ∧ VL A ∧ VU A ∧ VN A ∧ VT A
def RC (A : Mem) (B : Int → Int) : Prop := B 0 = A 0 1 ∧ B 1 = A 0 2 ∧ B 2 = A 0 3 ∧ B 3 = A 0 4 ∧ B 4 = A 0 5 ∧ B 5 = A 0 0 ∧ B 6 = A 0 6
def RW (A : Mem) (B : Int → Int) : Prop := ∀ w, 0 ≤ w ∧ w < A 0 2 → B (10 + 4 * w) = A 2 (2 * w) ∧ B (11 + 4 * w) = A 2 (2 * w + 1) ∧ B (12 + 4 * w) = A 3 w ∧ B (13 + 4 * w) = A 4 w
def RS (A : Mem) (B : Int → Int) : Prop := ∀ i, 0 ≤ i ∧ i < A 0 3 → B (50 + i) = A 5 i
def RLc (A : Mem) (B : Int → Int) : Prop := ∀ c, 0 ≤ c ∧ c < A 0 4 → B (54 + 11 * c) = A 6 c ∧ B (55 + 11 * c) = A 7 c ∧ ∀ k i, 0 ≤ k ∧ k < A 7 c → 0 ≤ i ∧ i < 3 → B (56 + 11 * c + 3 * k + i) = A 8 (9 * c + 3 * k + i)
def RK (A : Mem) (B : Int → Int) : Prop := ∀ k, 0 ≤ k ∧ k < A 0 5 → A 9 k = 63 * B (109 + 3 * k) + 21 * B (110 + 3 * k) + B (111 + 3 * k) ∧ (0 ≤ B (109 + 3 * k) ∧ B (109 + 3 * k) < A 0 4) ∧ (0 ≤ B (110 + 3 * k) ∧ B (110 + 3 * k) < A 7 (B (109 + 3 * k))) ∧ (0 ≤ B (111 + 3 * k) ∧ B (111 + 3 * k) ≤ 20)
def RU (A : Mem) (B : Int → Int) : Prop := A 0 6 = 1 → ∀ x b, 0 ≤ x ∧ x < 4 → 0 ≤ b ∧ b < 91 → B (134 + 91 * x + b) = A 10 (4 * b + x)
def RN (A : Mem) (N : Int → Int) : Prop := (∀ i, 0 ≤ i ∧ i < A 0 1 → N i = A 1 i) ∧ (∀ i, 0 ≤ i ∧ i < A 0 3 → N (7 + i) = A 1 (7 + i)) ∧ (∀ i, 0 ≤ i ∧ i < A 0 4 → N (11 + i) = A 1 (11 + i))
def RR1 (A : Mem) (B : Int → Int) (n : Int) : Prop :=
  (A 13 n = 10 → B (500 + 6 * n) = 10 ∧ B (501 + 6 * n) = A 15 n ∧ B (502 + 6 * n) = A 16 n ∧ B (503 + 6 * n) = A 18 n) ∧
  (A 13 n = 12 → B (500 + 6 * n) = 12 ∧ B (501 + 6 * n) = A 15 n ∧ B (502 + 6 * n) = A 16 n) ∧
  (A 13 n = 11 → B (500 + 6 * n) = 11) ∧ (A 13 n = 13 → B (500 + 6 * n) = 13) ∧ (A 13 n = 14 → B (500 + 6 * n) = 14) ∧ (A 13 n = 20 → B (500 + 6 * n) = 18) ∧
  (A 13 n = 15 → B (504 + 6 * n) = A 19 n ∧ (A 14 n = 16 → B (500 + 6 * n) = 1519 ∧ B (501 + 6 * n) = A 15 n ∧ B (503 + 6 * n) = A 16 n ∧ B (505 + 6 * n) = A 17 n ∧ B (502 + 6 * n) = A 18 n) ∧ (A 14 n = 6 → B (500 + 6 * n) = 1509 ∧ B (501 + 6 * n) = A 15 n ∧ B (502 + 6 * n) = A 16 n) ∧ (A 14 n = 17 → B (500 + 6 * n) = 1520 ∧ B (505 + 6 * n) = A 17 n ∧ B (502 + 6 * n) = A 18 n)) ∧
  (A 13 n = 18 → B (500 + 6 * n) = 16 ∧ B (501 + 6 * n) = A 18 n ∧ B (504 + 6 * n) = A 19 n) ∧
  (A 13 n = 19 → B (500 + 6 * n) = 17 ∧ B (504 + 6 * n) = A 19 n)
def RT (A : Mem) (B : Int → Int) : Prop := (A 12 0 = 0 → B 7 = -1) ∧ (A 12 0 = 1 → B 7 = A 12 2 ∧ ∀ n, 0 ≤ n ∧ n < A 12 2 → RR1 A B n)
def HR (A : Mem) (B N : Int → Int) : Prop := VA A ∧ RC A B ∧ RW A B ∧ RS A B ∧ RLc A B ∧ RK A B ∧ RU A B ∧ RN A N ∧ RT A B
def TR (s : Mem) : Prop := ∀ t, 0 ≤ t ∧ t < 4 → (s 4 t = -1 ∧ s 141 t = -1) ∨ ((0 ≤ s 4 t ∧ s 4 t ≤ 3) ∧ s 140 t = s 4 t ∧ s 141 t = s 5 t ∧ (0 ≤ s 5 t ∧ s 5 t ≤ 60) ∧ ∀ i, 0 ≤ i ∧ i < s 5 t → s 142 (60 * t + i) = s 6 (60 * t + i))
def TP (s : Mem) : Prop := s 137 10 = s 7 1 ∧ (0 ≤ s 7 1 ∧ s 7 1 ≤ 900) ∧ ∀ i, 0 ≤ i ∧ i < s 7 1 → s 143 i = s 8 i ∧ (-128 ≤ s 8 i ∧ s 8 i < 128)
def FA (s : Mem) : Prop := s 137 3 = s 0 1 ∧ s 137 4 = s 0 2 ∧ (s 137 47 = s 0 3 ∧ 0 ≤ s 0 3 ∧ s 0 3 ≤ 3) ∧ s 137 16 = s 7 8 ∧ s 137 17 = s 7 9 ∧ (s 137 46 = s 0 4 ∧ 0 ≤ s 0 4 ∧ s 0 4 ≤ 1) ∧ (s 0 4 = 1 → ∀ i, 0 ≤ i ∧ i < 5 → s 154 i = s 1 i)
def Inv (s : Mem) : Prop := s 137 2 = s 0 0 ∧ FA s ∧ TR s ∧ TP s ∧ HR (win s 37) (s 138) (s 139) ∧ ∀ k, 0 ≤ k ∧ k < s 0 3 → HR (win s (77 + 20 * k)) (fun i => s 138 (868 * (k + 1) + i)) (fun i => s 139 (16 * (k + 1) + i))
