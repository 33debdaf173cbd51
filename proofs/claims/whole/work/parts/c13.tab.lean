/-! ===== operations that read and write cells (wip/gen/mk13.py) ===== -/
def clN (c : Nat) : String := (classes.getD c ("", fun _ => ("", "", "", false), 0)).1
def clT (c : Nat) : u_T := (classes.getD c ("", fun _ => ("", "", "", false), 0)).2.1
def clW (c : Nat) : Nat := (classes.getD c ("", fun _ => ("", "", "", false), 0)).2.2
def clF (c : Nat) : Nat → FieldType := match c with
  | 0 => tyX0
  | 1 => tyX1
  | 2 => tyX2
  | 3 => tyX3
  | 4 => tyX4
  | 5 => tyX5
  | 6 => tyX6
  | 7 => tyX7
  | 8 => tyX8
  | 9 => tyX9
  | 10 => tyX10
  | _ => tyX11
def fkd (c j : Nat) : Int := lget (fkt.getD c []) j
/-- the type of a field -/
def rft : List (List Nat) := [[0, 0, 0, 0, 2, 0, 0, 0, 0, 2, 2, 2, 2, 2, 2, 2, 2],
  [0, 0, 0, 0, 0, 0, 0, 3, 2, 2, 2, 2, 2, 2, 2, 2, 2, 2, 17],
  [18, 0],
  [0, 0, 0, 0, 0, 0, 0, 2],
  [18, 2, 0],
  [0, 0, 0, 0, 0, 0, 2, 2, 2, 2, 2, 2],
  [2, 2, 2, 2, 2],
  [0, 0, 0, 2, 2, 2, 2, 2, 2, 2],
  [4, 0, 0, 0, 0, 0, 0, 1, 0, 0],
  [2, 2, 3],
  [0, 1, 1, 0, 0, 2, 2, 19, 18, 12, 14, 13, 10, 15, 16, 11, 11, 11, 11, 11],
  [2, 3, 0, 1, 1, 2, 2, 3, 4, 4, 0, 0, 0, 0, 0, 0, 0, 0, 0, 0, 0, 2, 0, 0, 2, 2, 0, 0, 2, 2, 2, 2, 0, 0, 0, 0, 0, 0, 0, 0, 0, 0, 0, 2, 2, 2, 0, 0]]
def frt (c j : Nat) : Nat := (rft.getD c []).getD j 0
def isRefTy (t : Nat) : Bool := t == 2 || t == 3 || t == 4 || (decide (10 ≤ t) && decide (t < 99))
theorem isRef_of {t : Nat} (h : isRefTy t = true) : t = 2 ∨ t = 3 ∨ t = 4 ∨ (10 ≤ t ∧ t < 99) := by
  unfold isRefTy at h
  simp only [Bool.or_eq_true, beq_iff_eq, Bool.and_eq_true, decide_eq_true_eq] at h
  omega
def clsCk (c : Nat) : Bool := (List.range (clW c)).all fun k => ((clT c k).1 == clN c) && (if fkd c k = 1000 then clF c k == .int && !(clT c k).2.2.2 else if fkd c k = 1001 then clF c k == .long && !(clT c k).2.2.2 else if fkd c k = 1002 then clF c k == .boolean && !(clT c k).2.2.2 else true)
theorem cls_ck : ∀ c, c < 12 → clsCk c = true := by decide +kernel
theorem cls_len : ∀ c, c < 12 → (fkt.getD c []).length = clW c := by decide +kernel
theorem cls_at : ∀ c, c < 12 → classes[c]? = some (clN c, clT c, clW c) := by
  intro c hc
  match c, hc with
  | 0, _ => rfl
  | 1, _ => rfl
  | 2, _ => rfl
  | 3, _ => rfl
  | 4, _ => rfl
  | 5, _ => rfl
  | 6, _ => rfl
  | 7, _ => rfl
  | 8, _ => rfl
  | 9, _ => rfl
  | 10, _ => rfl
  | 11, _ => rfl
  | n + 12, h => exact absurd h (by omega)
def clWs : List Cond := (List.range 12).flatMap fun c => u_ws (clN c) (clT c) (clW c)
set_option maxRecDepth 100000 in
theorem cls_ws0 : clWs.all (fun w => decide (w ∈ lw_g)) = true := by decide +kernel
theorem cls_ws {c : Nat} (hc : c < 12) : ∀ w ∈ u_ws (clN c) (clT c) (clW c), w ∈ lw_g := by
  intro w hw
  have := List.all_eq_true.mp cls_ws0 w (List.mem_flatMap.mpr ⟨c, List.mem_range.mpr hc, hw⟩)
  simpa using this
theorem cls_ty : ∀ c, c < 12 → ∀ k, k < clW c → parseFieldDescriptor (clT c k).2.2.1 = some (clF c k) := by
  intro c hc
  match c, hc with
  | 0, _ => exact tyX0_ok
  | 1, _ => exact tyX1_ok
  | 2, _ => exact tyX2_ok
  | 3, _ => exact tyX3_ok
  | 4, _ => exact tyX4_ok
  | 5, _ => exact tyX5_ok
  | 6, _ => exact tyX6_ok
  | 7, _ => exact tyX7_ok
  | 8, _ => exact tyX8_ok
  | 9, _ => exact tyX9_ok
  | 10, _ => exact tyX10_ok
  | 11, _ => exact tyX11_ok
  | n + 12, h => exact absurd h (by omega)
theorem cls_nm : ∀ c, c < 12 → ∀ a, a < clW c → ∀ b, b < clW c → a ≠ b → (clT c a).2.1 ≠ (clT c b).2.1 := by
  intro c hc
  match c, hc with
  | 0, _ => exact nmX0
  | 1, _ => exact nmX1
  | 2, _ => exact nmX2
  | 3, _ => exact nmX3
  | 4, _ => exact nmX4
  | 5, _ => exact nmX5
  | 6, _ => exact nmX6
  | 7, _ => exact nmX7
  | 8, _ => exact nmX8
  | 9, _ => exact nmX9
  | 10, _ => exact nmX10
  | 11, _ => exact nmX11
  | n + 12, h => exact absurd h (by omega)
theorem words_len : words.length = 21 := rfl
def wordCk (i : Nat) : Bool := decide (0 ≤ lget words i) && decide (lget words i < 9223372036854775808)
theorem words_ck : ∀ i, i < 21 → wordCk i = true := by decide +kernel
def lenCk (k : Nat) : Bool := decide (0 ≤ lget layLen k) && decide (lget layLen k < 10000)
theorem len_ck : ∀ k, k < 155 → lenCk k = true := by decide +kernel
theorem math_init : Cond.initialized "java/lang/Math" ∈ lw_g := by decide +kernel
theorem math_max : Cond.static Lib.Math.max.name ∈ lw_g ∧ Cond.code Lib.Math.max.name Lib.Math.max.code 2 (some .int) ∈ lw_g := by decide +kernel
theorem math_min : Cond.static Lib.Math.min.name ∈ lw_g ∧ Cond.code Lib.Math.min.name Lib.Math.min.code 2 (some .int) ∈ lw_g := by decide +kernel
theorem math_abs : Cond.static Lib.Math.abs.name ∈ lw_g ∧ Cond.code Lib.Math.abs.name Lib.Math.abs.code 1 (some .int) ∈ lw_g := by decide +kernel
