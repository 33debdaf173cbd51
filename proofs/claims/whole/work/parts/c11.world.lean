/-! ===== the world: the cells that the two constructors make, as the abstract memory tells them (wip/gen/mk11.py) ===== -/
/-- of each class its fields: 1000 int, 1001 long, 1002 boolean, else how far the cell lies that it points to -/
def fkt : List (List Int) := [[1000, 1000, 1000, 1000, 1, 1000, 1000, 1000, 1000, 2, 3, 4, 5, 6, 7, 8, 9],
  [1000, 1000, 1000, 1000, 1000, 1000, 1002, 1, 2, 3, 4, 5, 6, 7, 8, 9, 10, 11, 12],
  [-2, 1002],
  [1000, 1000, 1000, 1000, 1000, 1000, 1000, 1],
  [-3, 1, 1000],
  [1000, 1000, 1000, 1000, 1000, 1000, 1, 2, 3, 4, 5, 6],
  [1, 2, 3, 4, 5],
  [1002, 1000, 1000, 1, 2, 3, 4, 5, 6, 7],
  [1, 1000, 1000, 1000, 1000, 1000, 1000, 1001, 1000, 1000],
  [1, 2, 3],
  [1000, 1001, 1001, 1000, 1002, 1, 2, 3, 7, 9, 10, 12, 14, 24, 31, 37, 57, 77, 97, 117],
  [1, 2, 1000, 1001, 1001, 3, 4, 5, 6, 7, 1000, 1000, 1000, 1000, 1000, 1000, 1000, 1000, 1000, 1000, 1000, 8, 1000, 1000, 9, 10, 1000, 1000, 11, 12, 13, 14, 1000, 1000, 1000, 1000, 1000, 1000, 1000, 1000, 1000, 1000, 1000, 15, 16, 17, 1002, 1000]]
abbrev classes : List vw_C := [(RX0, TX0, 17), (RX1, TX1, 19), (RX2, TX2, 2), (RX3, TX3, 8), (RX4, TX4, 3), (RX5, TX5, 12), (RX6, TX6, 5), (RX7, TX7, 10), (RX8, TX8, 10), (RX9, TX9, 3), (RX10, TX10, 20), (RX11, TX11, 48)]
/-- classes' numbers and slots; the classes of int[], long[], byte[]; where a cell lies; where the word list's text, its bytes, the words' row, the script lie -/
abbrev WG : Type := va_G × (ClassId × ClassId × ClassId) × (Nat → Nat) × (Nat × Nat × Nat × Nat)
abbrev gD (G : WG) : va_G := G.1
abbrev gIn (G : WG) : ClassId := G.2.1.1
abbrev gJ (G : WG) : ClassId := G.2.1.2.1
abbrev gB (G : WG) : ClassId := G.2.1.2.2
abbrev ga (G : WG) : Nat → Nat := G.2.2.1
abbrev gS (G : WG) : Nat := G.2.2.2.1
abbrev gV (G : WG) : Nat := G.2.2.2.2.1
abbrev gW (G : WG) : Nat := G.2.2.2.2.2.1
abbrev gX (G : WG) : Nat := G.2.2.2.2.2.2
abbrev gT (G : WG) : List (ClassId × FieldType) := [(gIn G, .int), (gJ G, .long), (gB G, .byte)]
def cv (G : WG) (τ : Nat) (v : Int) : Value :=
  if τ = 0 then .int (Int32.ofInt v) else if τ = 1 then .long (Int64.ofInt v) else .ref (if τ = 5 then gS G else if τ = 6 then gW G else if τ = 7 then gX G else ga G v.toNat)
def fv (G : WG) (s : Mem) (k j : Nat) (f : Int) : Value :=
  if f = 1001 then .long (Int64.ofInt (s k j)) else if f = 1000 ∨ f = 1002 then .int (Int32.ofInt (s k j)) else .ref (ga G ((k : Int) + f).toNat)
def fvl (G : WG) (s : Mem) (k : Nat) : Nat → List Int → List Value
  | _, [] => []
  | j, f :: r => fv G s k j f :: fvl G s k (j + 1) r
def cty (k : Nat) : Nat := layTy.getD k 0
def cle (k : Nat) : Nat := (lget layLen k).toNat
def ce (G : WG) (s : Mem) (k : Nat) : Nat × va_E := (ga G k,
  if cty k = 2 then .inl (gIn G, cle k, .inl (fun j => Int32.ofInt (s k j)))
  else if cty k = 3 then .inl (gJ G, cle k, .inr (.inl (fun j => Int64.ofInt (s k j))))
  else if cty k = 4 then .inl (gB G, cle k, .inl (fun j => Int32.ofInt (s k j)))
  else .inr (cty k - 10, fvl G s k 0 (fkt.getD (cty k - 10) [])))
def wld (G : WG) (s : Mem) : va_W := (List.range 155).map (ce G s)
theorem wld_get {G : WG} {s : Mem} {k : Nat} (h : k < 155) : (wld G s)[k]? = some (ce G s k) := by
  unfold wld; rw [List.getElem?_map, List.getElem?_range h]; rfl
theorem wld_at {G : WG} {s : Mem} {k : Nat} {q : Nat × va_E} (h : (wld G s)[k]? = some q) : k < 155 ∧ q = ce G s k := by
  have hk : k < 155 := by
    have := (List.getElem?_eq_some_iff.mp h).1
    unfold wld at this; simpa using this
  rw [wld_get hk] at h
  exact ⟨hk, (Option.some.inj h).symm⟩
theorem fvl_congr {G : WG} {s s' : Mem} {k : Nat} (h : s (k : Int) = s' (k : Int)) : ∀ (l : List Int) (j : Nat), fvl G s k j l = fvl G s' k j l
  | [], _ => rfl
  | f :: r, j => by unfold fvl fv; rw [h, fvl_congr h r (j + 1)]
theorem ce_congr {G : WG} {s s' : Mem} {k : Nat} (h : s (k : Int) = s' (k : Int)) : ce G s k = ce G s' k := by
  unfold ce; rw [h, fvl_congr h]
theorem fvl_len {G : WG} {s : Mem} {k : Nat} : ∀ (l : List Int) (j : Nat), (fvl G s k j l).length = l.length
  | [], _ => rfl
  | _ :: r, j => by unfold fvl; rw [List.length_cons, List.length_cons, fvl_len r]
theorem fvl_get {G : WG} {s : Mem} {k : Nat} : ∀ (l : List Int) (j i : Nat) (f : Int), l[i]? = some f → (fvl G s k j l)[i]? = some (fv G s k (j + i) f)
  | [], _, _, _, h => by cases h
  | f :: r, j, 0, g, h => by cases h; rfl
  | f :: r, j, i + 1, g, h => by
    unfold fvl
    rw [List.getElem?_cons_succ, fvl_get r (j + 1) i g (by simpa using h)]
    congr 2; omega
theorem fvl_set {G : WG} {s : Mem} {k : Nat} {i : Nat} {v : Int} : ∀ (l : List Int) (j : Nat) (f : Int), l[i]? = some f → (fvl G s k j l).set i (fv G (mset s k ((j + i : Nat) : Int) v) k (j + i) f) = fvl G (mset s k ((j + i : Nat) : Int) v) k j l := by
  intro l j f hf
  apply List.ext_getElem?
  intro n
  rw [List.getElem?_set, fvl_len]
  by_cases hn : i = n
  · subst hn
    have hl : i < l.length := (List.getElem?_eq_some_iff.mp hf).1
    rw [if_pos rfl, if_pos hl, fvl_get l j i f hf]
  · rw [if_neg hn]
    cases hg : l[n]? with
    | none =>
      have h1 : l.length ≤ n := List.getElem?_eq_none_iff.mp hg
      rw [List.getElem?_eq_none_iff.mpr (by rw [fvl_len]; exact h1), List.getElem?_eq_none_iff.mpr (by rw [fvl_len]; exact h1)]
    | some g =>
      rw [fvl_get l j n g hg, fvl_get l j n g hg]
      have : ∀ w : Int, mset s k ((j + i : Nat) : Int) w (k : Int) ((j + n : Nat) : Int) = s k ((j + n : Nat) : Int) := by
        intro w; unfold mset; rw [if_pos rfl, if_neg (by omega)]
      unfold fv; rw [this]
theorem mset_other {s : Mem} {a j v b : Int} (h : b ≠ a) : mset s a j v b = s b := by unfold mset; rw [if_neg h]
theorem wld_set {G : WG} {s s' : Mem} {k : Nat} (hk : k < 155) (h : ∀ b : Nat, b ≠ k → s (b : Int) = s' (b : Int)) : (wld G s).set k (ce G s' k) = wld G s' := by
  apply List.ext_getElem?
  intro n
  rw [List.getElem?_set]
  have hl : (wld G s).length = 155 := by unfold wld; simp
  by_cases hn : k = n
  · subst hn; rw [if_pos rfl, if_pos (by omega), wld_get hk]
  · rw [if_neg hn]
    by_cases h1 : n < 155
    · rw [wld_get h1, wld_get h1, ce_congr (h n (Ne.symm hn))]
    · rw [List.getElem?_eq_none_iff.mpr (by omega), List.getElem?_eq_none_iff.mpr (by unfold wld; simp; omega)]
/-- what a value of a type may be -/
def okv (sc : Prop) (τ : Nat) (v : Int) : Prop :=
  if τ = 0 then in32 v else if τ = 1 then in64 v else if τ = 7 then sc else if τ = 5 ∨ τ = 6 ∨ τ = 99 then True else 0 ≤ v ∧ v < 155 ∧ cty v.toNat = τ
def okc (k : Nat) (j v : Int) : Prop :=
  if cty k = 2 then in32 v else if cty k = 3 then in64 v else if cty k = 4 then -128 ≤ v ∧ v < 128
  else if lget (fkt.getD (cty k - 10) []) j.toNat = 1001 then in64 v else if lget (fkt.getD (cty k - 10) []) j.toNat = 1002 then v = 0 ∨ v = 1 else in32 v
def okm (s : Mem) : Prop := ∀ (k : Nat) (j : Int), okc k j (s k j)
theorem okm_set {s : Mem} {k : Nat} {j v : Int} (h : okm s) (hv : okc k j v) : okm (mset s k j v) := by
  intro b i
  unfold mset
  by_cases hb : (b : Int) = k
  · rw [if_pos hb]
    have : b = k := by omega
    subst this
    by_cases hi : i = j
    · subst hi; rw [if_pos rfl]; exact hv
    · rw [if_neg hi]; exact h b i
  · rw [if_neg hb]; exact h b i
def okl (sc : Prop) : List Nat → List Int → Prop
  | [], [] => True
  | t :: ts, v :: vs => okv sc t v ∧ okl sc ts vs
  | _, _ => False
def stkB (G : WG) : List Nat → List Int → List Value
  | t :: ts, v :: vs => cv G t v :: stkB G ts vs
  | _, _ => []
/-- the locals that have a type, as the machine has them -/
def lvL (G : WG) : Nat → List Nat → List Int → List (Nat × Value)
  | i, t :: ts, v :: vs => if t = 99 then lvL G (i + 1) ts vs else (i, cv G t v) :: lvL G (i + 1) ts vs
  | _, _, _ => []
