/-! ===== H2: the memory behind both constructors ===== -/
/-- the memory behind both constructors -/
def s1 : Mem := plainT sI 0
theorem q_s1 (d : Nat) : sem (d + 1) 212 [137, 0] sI = some (0, s1) := q_plain d 0 (by omega) sI
theorem s1_o (c i : Int) (h : c ≠ 138) : s1 c i = sI c i := by
  unfold s1 plainT
  rw [mset_ne (by omega), mset_ne (by omega)]
  unfold zf
  rw [if_neg h]
theorem s1_z (i : Int) (h : 0 ≤ i ∧ i < 868) (h5 : i ≠ 5) (h7 : i ≠ 7) : s1 138 i = 0 := by
  unfold s1 plainT
  rw [mset_ne (by omega), mset_ne (by omega)]
  unfold zf
  rw [if_pos rfl]
  show (if 0 ≤ i ∧ i < 0 + 868 then (0 : Int) else sI 138 i) = 0
  rw [if_pos (by omega)]
theorem s1_5 : s1 138 5 = 4 := by
  unfold s1 plainT
  rw [mset_ne (by omega), mset_eq rfl (by omega)]
theorem s1_7 : s1 138 7 = -1 := by
  unfold s1 plainT
  rw [mset_eq rfl (by omega)]
theorem inv_s1 : Inv s1 := by
  have e03 : s1 0 3 = 0 := by rw [s1_o _ _ (by omega)]; rfl
  have e04 : s1 0 4 = 0 := by rw [s1_o _ _ (by omega)]; rfl
  have e71 : s1 7 1 = 0 := by rw [s1_o _ _ (by omega)]; rfl
  have e37 : ∀ i, s1 37 i = if i = 0 then 4 else 0 := fun i => by rw [s1_o _ _ (by omega)]; rfl
  have e490 : s1 49 0 = 0 := by rw [s1_o _ _ (by omega)]; rfl
  have e371 : s1 37 1 = 0 := by rw [e37, if_neg (by omega)]
  refine ⟨?_, ?_, ?_, ?_, ?_, ?_⟩
  · rw [s1_o _ _ (by omega), s1_o _ _ (by omega)]; rfl
  · unfold FA
    rw [e03, e04, s1_o 137 3 (by omega), s1_o 0 1 (by omega), s1_o 137 4 (by omega), s1_o 0 2 (by omega), s1_o 137 47 (by omega), s1_o 137 16 (by omega), s1_o 7 8 (by omega), s1_o 137 17 (by omega), s1_o 7 9 (by omega), s1_o 137 46 (by omega)]
    exact ⟨rfl, rfl, ⟨rfl, by omega, by omega⟩, rfl, rfl, ⟨rfl, by omega, by omega⟩, fun h => by omega⟩
  · intro t ht
    left
    rw [s1_o _ _ (by omega), s1_o _ _ (by omega)]
    refine ⟨?_, ?_⟩
    · show (if (0 : Int) ≤ t ∧ t < 4 then (-1 : Int) else 0) = -1
      rw [if_pos ht]
    · show (if (0 : Int) ≤ t ∧ t < 4 then (-1 : Int) else 0) = -1
      rw [if_pos ht]
  · unfold TP
    rw [e71]
    refine ⟨?_, by omega, fun i hi => by omega⟩
    rw [s1_o _ _ (by omega)]; rfl
  · refine HR_of (HP_init (A := win s1 37) (e37 0) (fun i hi => ?_) e490 (fun i hi => s1_z i (by omega) (by omega) (by omega)) s1_5 s1_7) (fun a b ha => ?_)
    · exact (e37 i).trans (if_neg (by omega))
    · have h0 : a < s1 37 1 := ha.2
      omega
  · intro k hk
    omega
