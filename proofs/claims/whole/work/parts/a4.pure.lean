/-! ===== H2: answers, what is pure ===== -/
def llt : List Int → List Int → Bool
  | _, [] => false
  | [], _ :: _ => true
  | a :: s, b :: t => if a < b then true else if a = b then llt s t else false
theorem llt_tot : ∀ s t, llt s t = false → llt t s = false → s = t
  | [], [], _, _ => rfl
  | [], b :: t, h, _ => by simp [llt] at h
  | a :: s, [], _, h => by simp [llt] at h
  | a :: s, b :: t, h, g => by
    simp only [llt] at h g
    by_cases c1 : a < b
    · rw [if_pos c1] at h; exact absurd h (by decide)
    · by_cases c2 : b < a
      · rw [if_pos c2] at g; exact absurd g (by decide)
      · have e : a = b := by omega
        subst e
        rw [if_neg c1, if_pos rfl] at h
        rw [if_neg c1, if_pos rfl] at g
        rw [llt_tot s t h g]
theorem llt_asy : ∀ s t, llt s t = true → llt t s = false
  | [], [], h => by simp [llt] at h
  | [], b :: t, _ => by simp [llt]
  | a :: s, [], h => by simp [llt] at h
  | a :: s, b :: t, h => by
    simp only [llt] at h ⊢
    by_cases c1 : a < b
    · rw [if_neg (by omega), if_neg (by omega)]
    · rw [if_neg c1] at h
      by_cases e : a = b
      · subst e
        rw [if_pos rfl] at h
        rw [if_neg c1, if_pos rfl, llt_asy s t h]
      · rw [if_neg e] at h; exact absurd h (by decide)
theorem llt_tr : ∀ s t r, llt s t = true → llt t r = true → llt s r = true
  | s, [], r, h, _ => by cases s <;> simp [llt] at h
  | s, b :: t, [], _, g => by simp [llt] at g
  | [], b :: t, c :: r, _, _ => by simp [llt]
  | a :: s, b :: t, c :: r, h, g => by
    simp only [llt] at h g ⊢
    by_cases c1 : a < b
    · by_cases c2 : b < c
      · rw [if_pos (by omega)]
      · rw [if_neg c2] at g
        by_cases e : b = c
        · rw [if_pos (by omega)]
        · rw [if_neg e] at g; exact absurd g (by decide)
    · rw [if_neg c1] at h
      by_cases e : a = b
      · subst e
        rw [if_pos rfl] at h
        by_cases c2 : a < c
        · rw [if_pos c2]
        · rw [if_neg c2] at g ⊢
          by_cases e2 : a = c
          · rw [if_pos e2] at g ⊢; exact llt_tr s t r h g
          · rw [if_neg e2] at g; exact absurd g (by decide)
      · rw [if_neg e] at h; exact absurd h (by decide)
def mn_ (B T : List Int) : List Int := if llt T B = true then T else B
theorem bfl {b : Bool} (h : ¬ b = true) : b = false := by cases b <;> simp_all
theorem mn_c (a b : List Int) : mn_ a b = mn_ b a := by
  unfold mn_
  by_cases h : llt b a = true
  · rw [if_pos h, if_neg (by rw [llt_asy b a h]; decide)]
  · rw [if_neg h]
    by_cases g : llt a b = true
    · rw [if_pos g]
    · rw [if_neg g]; exact llt_tot a b (bfl g) (bfl h)
theorem mn_a (z a b : List Int) : mn_ (mn_ z a) b = mn_ (mn_ z b) a := by
  have e : ∀ B T, mn_ B T = if llt T B = true then T else B := fun _ _ => rfl
  by_cases h1 : llt a z = true
  · by_cases h2 : llt b z = true
    · rw [e z a, e z b, if_pos h1, if_pos h2, mn_c]
    · rw [e z a, e z b, if_pos h1, if_neg h2, e a b, e z a, if_pos h1, if_neg (fun h => h2 (llt_tr b a z h h1))]
  · by_cases h2 : llt b z = true
    · rw [e z a, e z b, if_neg h1, if_pos h2, e z b, e b a, if_pos h2, if_neg (fun h => h1 (llt_tr a b z h h2))]
    · rw [e z a, e z b, if_neg h1, if_neg h2, e z b, e z a, if_neg h1, if_neg h2]
def on_ : Option (List Int) → List Int → Option (List Int)
  | none, T => some T
  | some B, T => some (mn_ B T)
theorem on_c (o : Option (List Int)) (a b : List Int) : on_ (on_ o a) b = on_ (on_ o b) a := by
  cases o with
  | none => show some (mn_ a b) = some (mn_ b a); rw [mn_c]
  | some z => show some (mn_ (mn_ z a) b) = some (mn_ (mn_ z b) a); rw [mn_a]
abbrev Ntt := Int × Int × Int × Option (List Int)
def nt (so : Int) (N : Ntt) (T : List Int) : Ntt := (N.1 + 1, N.2.1 + (if so ∈ T then 1 else 0), min N.2.2.1 T.length, on_ N.2.2.2 T)
theorem nt_c (so : Int) (N : Ntt) (a b : List Int) : nt so (nt so N a) b = nt so (nt so N b) a := by
  show (N.1 + 1 + 1, N.2.1 + (if so ∈ a then 1 else 0) + (if so ∈ b then 1 else 0), min (min N.2.2.1 a.length) b.length, on_ (on_ N.2.2.2 a) b) = (N.1 + 1 + 1, N.2.1 + (if so ∈ b then 1 else 0) + (if so ∈ a then 1 else 0), min (min N.2.2.1 b.length) a.length, on_ (on_ N.2.2.2 b) a)
  rw [on_c]
  congr 2
  · generalize (if so ∈ a then (1 : Int) else 0) = x
    generalize (if so ∈ b then (1 : Int) else 0) = y
    omega
  · congr 1
    omega
def Nd {α : Type} : List α → Prop
  | [] => True
  | a :: l => a ∉ l ∧ Nd l
theorem Nd_mid {α : Type} {a : α} {q : List α} : ∀ p, Nd (p ++ a :: q) → Nd (p ++ q) ∧ a ∉ p ++ q
  | [], h => ⟨h.2, h.1⟩
  | x :: p, h => by
    obtain ⟨h1, h2⟩ := h
    obtain ⟨i1, i2⟩ := Nd_mid p h2
    refine ⟨⟨fun hh => h1 ?_, i1⟩, fun hh => ?_⟩
    · rcases List.mem_append.1 hh with k | k
      · exact List.mem_append.2 (Or.inl k)
      · exact List.mem_append.2 (Or.inr (List.mem_cons_of_mem _ k))
    · rcases List.mem_cons.1 hh with k | k
      · exact h1 (by rw [← k]; exact List.mem_append.2 (Or.inr (List.mem_cons_self ..)))
      · exact i2 k
theorem Nd_app {α : Type} : ∀ (p q : List α), Nd p → Nd q → (∀ x, x ∈ p → x ∉ q) → Nd (p ++ q)
  | [], q, _, h, _ => h
  | x :: p, q, h, g, k => by
    refine ⟨fun hh => ?_, Nd_app p q h.2 g (fun y hy => k y (List.mem_cons_of_mem _ hy))⟩
    rcases List.mem_append.1 hh with j | j
    · exact h.1 j
    · exact k x (List.mem_cons_self ..) j
theorem fd_mv {α β : Type} (f : β → α → β) (hc : ∀ z x y, f (f z x) y = f (f z y) x) (a : α) : ∀ (p : List α) (z : β), p.foldl f (f z a) = f (p.foldl f z) a
  | [], _ => rfl
  | x :: p, z => by
    show p.foldl f (f (f z a) x) = f (p.foldl f (f z x)) a
    rw [hc, fd_mv f hc a p]
theorem fd_pm {α β : Type} (f : β → α → β) (hc : ∀ z x y, f (f z x) y = f (f z y) x) : ∀ (l m : List α), Nd l → Nd m → (∀ x, x ∈ l ↔ x ∈ m) → ∀ z, l.foldl f z = m.foldl f z
  | [], m, _, _, h, z => by
    cases m with
    | nil => rfl
    | cons b m => exact absurd ((h b).2 (List.mem_cons_self ..)) (by simp)
  | a :: l, m, hl, hm, h, z => by
    obtain ⟨p, q, rfl⟩ := List.append_of_mem ((h a).1 (List.mem_cons_self ..))
    obtain ⟨i1, i2⟩ := Nd_mid p hm
    have e1 : (p ++ a :: q).foldl f z = (p ++ q).foldl f (f z a) := by
      rw [List.foldl_append, List.foldl_append, fd_mv f hc a p]; rfl
    rw [e1]
    show l.foldl f (f z a) = _
    refine fd_pm f hc l (p ++ q) hl.2 i1 (fun x => ⟨fun hx => ?_, fun hx => ?_⟩) _
    · have := (h x).1 (List.mem_cons_of_mem _ hx)
      rcases List.mem_append.1 this with k | k
      · exact List.mem_append.2 (Or.inl k)
      · rcases List.mem_cons.1 k with k | k
        · rw [k] at hx; exact absurd hx hl.1
        · exact List.mem_append.2 (Or.inr k)
    · have : x ∈ p ++ a :: q := by
        rcases List.mem_append.1 hx with k | k
        · exact List.mem_append.2 (Or.inl k)
        · exact List.mem_append.2 (Or.inr (List.mem_cons_of_mem _ k))
      rcases List.mem_cons.1 ((h x).2 this) with k | k
      · rw [k] at hx; exact absurd hx i2
      · exact k
theorem fd_len (so : Int) : ∀ (l : List (List Int)) (N : Ntt), (l.foldl (nt so) N).1 = N.1 + l.length ∧ N.2.1 ≤ (l.foldl (nt so) N).2.1 ∧ (l.foldl (nt so) N).2.1 ≤ N.2.1 + l.length
  | [], N => by show N.1 = N.1 + ((0 : Nat) : Int) ∧ N.2.1 ≤ N.2.1 ∧ N.2.1 ≤ N.2.1 + ((0 : Nat) : Int); omega
  | T :: l, N => by
    obtain ⟨a, b, c⟩ := fd_len so l (nt so N T)
    have e1 : (nt so N T).1 = N.1 + 1 := rfl
    have e2 : (nt so N T).2.1 = N.2.1 + (if so ∈ T then 1 else 0) := rfl
    have e3 : ((T :: l).length : Int) = l.length + 1 := by simp
    show (l.foldl (nt so) (nt so N T)).1 = _ ∧ N.2.1 ≤ (l.foldl (nt so) (nt so N T)).2.1 ∧ (l.foldl (nt so) (nt so N T)).2.1 ≤ _
    rw [e3]
    have e4 : 0 ≤ (if so ∈ T then (1 : Int) else 0) ∧ (if so ∈ T then (1 : Int) else 0) ≤ 1 := by split <;> omega
    generalize (if so ∈ T then (1 : Int) else 0) = y at e2 e4
    omega
def tl (g : Int → Int) : Int → Nat → List Int
  | _, 0 => []
  | k, n + 1 => g k :: tl g (k + 1) n
theorem mem_tl {g : Int → Int} {v : Int} : ∀ (n : Nat) (k : Int), v ∈ tl g k n ↔ ∃ j, k ≤ j ∧ j < k + n ∧ g j = v := by
  intro n
  induction n with
  | zero => intro k; exact ⟨fun h => absurd h (by simp [tl]), fun ⟨j, a, b, _⟩ => by omega⟩
  | succ n ih =>
    intro k
    show v ∈ g k :: tl g (k + 1) n ↔ _
    rw [List.mem_cons, ih]
    constructor
    · rintro (h | ⟨j, a, b, c⟩)
      · exact ⟨k, by omega, by omega, h.symm⟩
      · exact ⟨j, by omega, by omega, c⟩
    · rintro ⟨j, a, b, c⟩
      by_cases e : j = k
      · left; rw [← c, e]
      · right; exact ⟨j, by omega, by omega, c⟩
theorem tl_len (g : Int → Int) : ∀ (n : Nat) (k : Int), (tl g k n).length = n := by
  intro n
  induction n with
  | zero => intro k; rfl
  | succ n ih => intro k; show (g k :: tl g (k + 1) n).length = n + 1; rw [List.length_cons, ih]
theorem tl_congr {g h : Int → Int} : ∀ (n : Nat) (k : Int), (∀ j, k ≤ j → j < k + n → g j = h j) → tl g k n = tl h k n := by
  intro n
  induction n with
  | zero => intros; rfl
  | succ n ih =>
    intro k hk
    show g k :: tl g (k + 1) n = h k :: tl h (k + 1) n
    rw [hk k (by omega) (by omega), ih (k + 1) (fun j a b => hk j (by omega) (by omega))]
def Srt : List Int → Prop
  | [] => True
  | a :: l => (∀ b, b ∈ l → a < b) ∧ Srt l
theorem srt_tl {g : Int → Int} : ∀ (n : Nat) (k : Int), (∀ i j, k ≤ i → i < j → j < k + n → g i < g j) → Srt (tl g k n) := by
  intro n
  induction n with
  | zero => intros; trivial
  | succ n ih =>
    intro k h
    refine ⟨fun b hb => ?_, ih (k + 1) (fun i j a b c => h i j (by omega) b (by omega))⟩
    obtain ⟨j, a, b', c⟩ := (mem_tl n (k + 1)).1 hb
    rw [← c]; exact h k j (by omega) (by omega) (by omega)
theorem srt_ext : ∀ (s t : List Int), Srt s → Srt t → (∀ v, v ∈ s ↔ v ∈ t) → s = t
  | [], [], _, _, _ => rfl
  | [], b :: t, _, _, h => absurd ((h b).2 (List.mem_cons_self ..)) (by simp)
  | a :: s, [], _, _, h => absurd ((h a).1 (List.mem_cons_self ..)) (by simp)
  | a :: s, b :: t, hs, ht, h => by
    have e : a = b := by
      rcases List.mem_cons.1 ((h a).1 (List.mem_cons_self ..)) with k | k
      · exact k
      · rcases List.mem_cons.1 ((h b).2 (List.mem_cons_self ..)) with j | j
        · exact j.symm
        · have := hs.1 b j
          have := ht.1 a k
          omega
    subst e
    rw [srt_ext s t hs.2 ht.2 (fun v => ⟨fun hv => ?_, fun hv => ?_⟩)]
    · rcases List.mem_cons.1 ((h v).1 (List.mem_cons_of_mem _ hv)) with k | k
      · have := hs.1 v hv; omega
      · exact k
    · rcases List.mem_cons.1 ((h v).2 (List.mem_cons_of_mem _ hv)) with k | k
      · have := ht.1 v hv; omega
      · exact k
theorem srt_nd : ∀ s : List Int, Srt s → Nd s
  | [], _ => trivial
  | a :: s, h => ⟨fun hh => by have := h.1 a hh; omega, srt_nd s h.2⟩
theorem sg_mono {f g : Int → Int} (n : Nat) (k : Int) (h : ∀ i, k ≤ i → i < k + n → f i ≤ g i) : sg f k n ≤ sg g k n := by
  have := (sg_nn (f := fun i => g i - f i) n k (fun i a b => by have := h i a b; show 0 ≤ g i - f i; omega)).1
  rw [sg_sub] at this
  omega
def iS (C : List Int) (f : Int → Int) : Int := sg (fun v => if v ∈ C then f v else 0) 0 315
theorem iS_cons {C : List Int} {v : Int} {f : Int → Int} (hv : 0 ≤ v ∧ v < 315) (h : v ∉ C) : iS (v :: C) f = f v + iS C f := by
  have e : sg (fun w => if v = w then f v else 0) 0 315 = f v := by rw [sg_pick, if_pos (by omega)]
  have e2 : iS (v :: C) f = sg (fun w => (if v = w then f v else 0) + (if w ∈ C then f w else 0)) 0 315 := by
    unfold iS
    apply sg_congr
    intro w _ _
    show (if w ∈ v :: C then f w else 0) = (if v = w then f v else 0) + (if w ∈ C then f w else 0)
    by_cases c : v = w
    · subst c
      rw [if_pos (List.mem_cons_self ..), if_pos rfl, if_neg h, Int.add_zero]
    · rw [if_neg c, Int.zero_add]
      by_cases c2 : w ∈ C
      · rw [if_pos c2, if_pos (List.mem_cons_of_mem _ c2)]
      · rw [if_neg c2, if_neg (fun hh => by
          rcases List.mem_cons.1 hh with k | k
          · exact c k.symm
          · exact c2 k)]
  rw [e2, sg_add, e]; rfl
theorem iS_le {C T : List Int} {f : Int → Int} (hs : ∀ v, v ∈ C → v ∈ T) (hf : ∀ v, v ∈ T → 0 ≤ f v) : iS C f ≤ iS T f := by
  unfold iS
  apply sg_mono
  intro v _ _
  show (if v ∈ C then f v else 0) ≤ (if v ∈ T then f v else 0)
  by_cases c : v ∈ C
  · rw [if_pos c, if_pos (hs v c)]; omega
  · rw [if_neg c]
    by_cases c2 : v ∈ T
    · rw [if_pos c2]; exact hf v c2
    · rw [if_neg c2]; omega
theorem iS_ex {C T : List Int} {f : Int → Int} (hs : ∀ v, v ∈ C → v ∈ T) (h : iS C f < iS T f) : ∃ w, w ∈ T ∧ w ∉ C ∧ 0 < f w := by
  by_cases hh : ∃ w, w ∈ T ∧ w ∉ C ∧ 0 < f w
  · exact hh
  · exfalso
    have : iS T f ≤ iS C f := by
      unfold iS
      apply sg_mono
      intro v _ _
      show (if v ∈ T then f v else 0) ≤ (if v ∈ C then f v else 0)
      by_cases c : v ∈ C
      · rw [if_pos c, if_pos (hs v c)]; omega
      · rw [if_neg c]
        by_cases c2 : v ∈ T
        · rw [if_pos c2]
          by_cases c3 : 0 < f v
          · exact absurd ⟨v, c2, c, c3⟩ hh
          · omega
        · rw [if_neg c2]; omega
    omega
theorem iS_mem {C T : List Int} {f : Int → Int} (hm : ∀ v, v ∈ C ↔ v ∈ T) : iS C f = iS T f := by
  unfold iS
  apply sg_congr
  intro v _ _
  show (if v ∈ C then f v else 0) = (if v ∈ T then f v else 0)
  by_cases c : v ∈ C
  · rw [if_pos c, if_pos ((hm v).1 c)]
  · rw [if_neg c, if_neg (fun h => c ((hm v).2 h))]
theorem iS_const (G : Int) : ∀ (C : List Int), Nd C → (∀ v, v ∈ C → 0 ≤ v ∧ v < 315) → iS C (fun _ => G) = G * C.length
  | [], _, _ => by
    have : iS [] (fun _ => G) = 0 := sg_zero 315 0 _ (fun i _ _ => by show (if i ∈ ([] : List Int) then G else 0) = 0; rw [if_neg (by simp)])
    rw [this]; show 0 = G * ((0 : Nat) : Int); omega
  | v :: C, h, hr => by
    rw [iS_cons (hr v (List.mem_cons_self ..)) h.1, iS_const G C h.2 (fun w hw => hr w (List.mem_cons_of_mem _ hw))]
    have : ((v :: C).length : Int) = C.length + 1 := by simp
    rw [this, Int.mul_add, Int.mul_one]; omega
