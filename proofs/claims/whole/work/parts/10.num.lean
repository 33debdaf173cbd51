/-! ===== numbers of the abstract machine and of the Java machine ===== -/
def in32 (v : Int) : Prop := -2147483648 ≤ v ∧ v < 2147483648
def in64 (v : Int) : Prop := -9223372036854775808 ≤ v ∧ v < 9223372036854775808
theorem wr_bmod (z : Int) : wr z = z.bmod 4294967296 := by
  unfold wr; rw [Int.bmod_def]; split <;> omega
theorem wl_bmod (z : Int) : wl z = z.bmod 18446744073709551616 := by
  unfold wl; rw [Int.bmod_def]; split <;> omega
theorem wr_in (z : Int) : in32 (wr z) := by unfold wr in32; omega
theorem wl_in (z : Int) : in64 (wl z) := by unfold wl in64; omega
theorem wr_id {z : Int} (h : in32 z) : wr z = z := by unfold wr; unfold in32 at h; omega
theorem wl_id {z : Int} (h : in64 z) : wl z = z := by unfold wl; unfold in64 at h; omega
theorem i32_to {v : Int} (h : in32 v) : (Int32.ofInt v).toInt = v := Int32.toInt_ofInt_of_le (by have := h.1; omega) (by have := h.2; omega)
theorem i64_to {v : Int} (h : in64 v) : (Int64.ofInt v).toInt = v := Int64.toInt_ofInt_of_le (by have := h.1; omega) (by have := h.2; omega)
theorem i32_in (x : Int32) : in32 x.toInt := ⟨by have := x.le_toInt; omega, by have := x.toInt_lt; omega⟩
theorem i64_in (x : Int64) : in64 x.toInt := ⟨by have := x.le_toInt; omega, by have := x.toInt_lt; omega⟩
theorem i32_wr (z : Int) : Int32.ofInt (wr z) = Int32.ofInt z := by
  apply Int32.toInt.inj
  rw [i32_to (wr_in z), Int32.toInt_ofInt, wr_bmod]
theorem i64_wl (z : Int) : Int64.ofInt (wl z) = Int64.ofInt z := by
  apply Int64.toInt.inj
  rw [i64_to (wl_in z), Int64.toInt_ofInt, wl_bmod]
theorem i32_eq {x y : Int} (hx : in32 x) (hy : in32 y) : Int32.ofInt x = Int32.ofInt y ↔ x = y :=
  ⟨fun h => by rw [← i32_to hx, ← i32_to hy, h], fun h => by rw [h]⟩
theorem i32_lt {x y : Int} (hx : in32 x) (hy : in32 y) : Int32.ofInt x < Int32.ofInt y ↔ x < y := by
  rw [Int32.lt_iff_toInt_lt, i32_to hx, i32_to hy]
theorem i32_le {x y : Int} (hx : in32 x) (hy : in32 y) : Int32.ofInt x ≤ Int32.ofInt y ↔ x ≤ y := by
  rw [Int32.le_iff_toInt_le, i32_to hx, i32_to hy]
theorem i64_eq {x y : Int} (hx : in64 x) (hy : in64 y) : Int64.ofInt x = Int64.ofInt y ↔ x = y :=
  ⟨fun h => by rw [← i64_to hx, ← i64_to hy, h], fun h => by rw [h]⟩
theorem i64_lt {x y : Int} (hx : in64 x) (hy : in64 y) : Int64.ofInt x < Int64.ofInt y ↔ x < y := by
  rw [Int64.lt_iff_toInt_lt, i64_to hx, i64_to hy]
theorem in32_0 : in32 0 := by unfold in32; omega
theorem i32_add (x y : Int) : Int32.ofInt x + Int32.ofInt y = Int32.ofInt (wr (x + y)) := by rw [i32_wr, Int32.ofInt_add]
theorem i32_sub (x y : Int) : Int32.ofInt x - Int32.ofInt y = Int32.ofInt (wr (x - y)) := by rw [i32_wr, Int32.ofInt_sub]
theorem i32_mul (x y : Int) : Int32.ofInt x * Int32.ofInt y = Int32.ofInt (wr (x * y)) := by rw [i32_wr, Int32.ofInt_mul]
theorem i32_neg (x : Int) : -Int32.ofInt x = Int32.ofInt (wr (-x)) := by rw [i32_wr, Int32.ofInt_neg]
theorem i64_add (x y : Int) : Int64.ofInt x + Int64.ofInt y = Int64.ofInt (wl (x + y)) := by rw [i64_wl, Int64.ofInt_add]
theorem i64_sub (x y : Int) : Int64.ofInt x - Int64.ofInt y = Int64.ofInt (wl (x - y)) := by rw [i64_wl, Int64.ofInt_sub]
theorem i64_mul (x y : Int) : Int64.ofInt x * Int64.ofInt y = Int64.ofInt (wl (x * y)) := by rw [i64_wl, Int64.ofInt_mul]
theorem i32_div {x y : Int} (hx : in32 x) (hy : in32 y) : Int32.ofInt x / Int32.ofInt y = Int32.ofInt (wr (x.tdiv y)) := by
  apply Int32.toInt.inj
  rw [Int32.toInt_div, i32_to hx, i32_to hy, i32_to (wr_in _), wr_bmod]
theorem i64_div {x y : Int} (hx : in64 x) (hy : in64 y) : Int64.ofInt x / Int64.ofInt y = Int64.ofInt (wl (x.tdiv y)) := by
  apply Int64.toInt.inj
  rw [Int64.toInt_div, i64_to hx, i64_to hy, i64_to (wl_in _), wl_bmod]
theorem tmod_in32 {x y : Int} (hx : in32 x) : in32 (x.tmod y) := by
  have h : (x.tmod y).natAbs ≤ x.natAbs := by rw [Int.natAbs_tmod]; exact Nat.mod_le _ _
  unfold in32 at *
  by_cases h0 : 0 ≤ x
  · have := Int.tmod_nonneg y h0; omega
  · have : x.tmod y ≤ 0 := by
      have := Int.tmod_nonneg y (show 0 ≤ -x by omega)
      rw [Int.neg_tmod] at this; omega
    omega
theorem tmod_in64 {x y : Int} (hx : in64 x) : in64 (x.tmod y) := by
  have h : (x.tmod y).natAbs ≤ x.natAbs := by rw [Int.natAbs_tmod]; exact Nat.mod_le _ _
  unfold in64 at *
  by_cases h0 : 0 ≤ x
  · have := Int.tmod_nonneg y h0; omega
  · have : x.tmod y ≤ 0 := by
      have := Int.tmod_nonneg y (show 0 ≤ -x by omega)
      rw [Int.neg_tmod] at this; omega
    omega
theorem i32_rem {x y : Int} (hx : in32 x) (hy : in32 y) : Int32.ofInt x - Int32.ofInt x / Int32.ofInt y * Int32.ofInt y = Int32.ofInt (x.tmod y) := by
  rw [i32_div hx hy, i32_mul, i32_sub]
  have h : x.tmod y = x - y * x.tdiv y := by have := Int.tmod_add_mul_tdiv x y; omega
  rw [i32_wr, Int32.ofInt_sub, i32_wr, Int32.ofInt_mul, i32_wr, ← Int32.ofInt_mul, ← Int32.ofInt_sub, h, Int.mul_comm]
theorem i64_rem {x y : Int} (hx : in64 x) (hy : in64 y) : Int64.ofInt x - Int64.ofInt x / Int64.ofInt y * Int64.ofInt y = Int64.ofInt (x.tmod y) := by
  rw [i64_div hx hy, i64_mul, i64_sub]
  have h : x.tmod y = x - y * x.tdiv y := by have := Int.tmod_add_mul_tdiv x y; omega
  rw [i64_wl, Int64.ofInt_sub, i64_wl, Int64.ofInt_mul, i64_wl, ← Int64.ofInt_mul, ← Int64.ofInt_sub, h, Int.mul_comm]
theorem i32_i2l {x : Int} (hx : in32 x) : (Int32.ofInt x).toInt64 = Int64.ofInt x := by
  apply Int64.toInt.inj
  rw [Int32.toInt_toInt64, i32_to hx, i64_to (by unfold in32 at hx; unfold in64; omega)]
theorem in32_64 {x : Int} (h : in32 x) : in64 x := by unfold in32 at h; unfold in64; omega
theorem i64_l2i {x : Int} : (Int64.ofInt x).toInt32 = Int32.ofInt (wr x) := by rw [i32_wr]; exact Int64.toInt32_ofInt
theorem w8_in (z : Int) : -128 ≤ w8 z ∧ w8 z < 128 := by unfold w8; omega
theorem w16_in (z : Int) : -32768 ≤ w16 z ∧ w16 z < 32768 := by unfold w16; omega
theorem w8_bmod (z : Int) : w8 z = z.bmod 256 := by unfold w8; rw [Int.bmod_def]; split <;> omega
theorem w16_bmod (z : Int) : w16 z = z.bmod 65536 := by unfold w16; rw [Int.bmod_def]; split <;> omega
theorem i32_i2b {x : Int} (hx : in32 x) : (Int32.ofInt x).toInt8.toInt32 = Int32.ofInt (w8 x) := by
  apply Int32.toInt.inj
  rw [Int8.toInt_toInt32, Int32.toInt_toInt8, i32_to hx, i32_to (by have := w8_in x; unfold in32; omega), w8_bmod]
theorem i32_i2s {x : Int} (hx : in32 x) : (Int32.ofInt x).toInt16.toInt32 = Int32.ofInt (w16 x) := by
  apply Int32.toInt.inj
  rw [Int16.toInt_toInt32, Int32.toInt_toInt16, i32_to hx, i32_to (by have := w16_in x; unfold in32; omega), w16_bmod]
theorem i64_cmp {x y : Int} (hx : in64 x) (hy : in64 y) : lg_cmp (Int64.ofInt x) (Int64.ofInt y) = Int32.ofInt (lcmp_ x y) := by
  unfold lg_cmp lcmp_
  simp only [gt_iff_lt, i64_lt hy hx, i64_eq hx hy]
  by_cases h1 : y < x
  · rw [if_pos h1, if_neg (by omega), if_neg (by omega)]; rfl
  · rw [if_neg h1]
    by_cases h2 : x = y
    · rw [if_pos h2, if_neg (by omega), if_pos h2]; rfl
    · rw [if_neg h2, if_pos (by omega)]; rfl
theorem lcmp_in (x y : Int) : in32 (lcmp_ x y) := by unfold lcmp_ in32; split <;> (try split) <;> omega
theorem i32_nat {i : Int} (h0 : 0 ≤ i) (h : in32 i) : (Int32.ofInt i).toNatClampNeg = i.toNat := by
  show (Int32.ofInt i).toInt.toNat = _
  rw [i32_to h]
theorem i32_vin {i n : Int} (h0 : 0 ≤ i) (h1 : i < n) (h : in32 i) : vp_in (Int32.ofInt i) n.toNat := by
  unfold vp_in
  rw [i32_nat h0 h, show (0 : Int32) = Int32.ofInt 0 from rfl, i32_lt h in32_0]
  omega
theorem i32_byte {x : Int} (hx : in32 x) : vp_nar .byte (Int32.ofInt x) = Int32.ofInt (w8 x) := i32_i2b hx
theorem iand_in (x y : Int) : in32 (iand_ x y) := i32_in _
theorem ior_in (x y : Int) : in32 (ior_ x y) := i32_in _
theorem ixor_in (x y : Int) : in32 (ixor_ x y) := i32_in _
theorem ishl_in (x y : Int) : in32 (ishl_ x y) := i32_in _
theorem ishr_in (x y : Int) : in32 (ishr_ x y) := i32_in _
theorem iushr_in (x y : Int) : in32 (iushr_ x y) := i32_in _
theorem land_in (x y : Int) : in64 (land_ x y) := i64_in _
theorem lor_in (x y : Int) : in64 (lor_ x y) := i64_in _
theorem lshl_in (x y : Int) : in64 (lshl_ x y) := i64_in _
theorem i32_and (x y : Int) : Int32.ofInt x &&& Int32.ofInt y = Int32.ofInt (iand_ x y) := (Int32.ofInt_toInt _).symm
theorem i32_or (x y : Int) : Int32.ofInt x ||| Int32.ofInt y = Int32.ofInt (ior_ x y) := (Int32.ofInt_toInt _).symm
theorem i32_xor (x y : Int) : Int32.ofInt x ^^^ Int32.ofInt y = Int32.ofInt (ixor_ x y) := (Int32.ofInt_toInt _).symm
theorem i32_shl (x y : Int) : Int32.ofInt x <<< (Int32.ofInt y &&& 31) = Int32.ofInt (ishl_ x y) := (Int32.ofInt_toInt _).symm
theorem i32_shr (x y : Int) : Int32.ofInt x >>> (Int32.ofInt y &&& 31) = Int32.ofInt (ishr_ x y) := (Int32.ofInt_toInt _).symm
theorem i32_ushr (x y : Int) : ((Int32.ofInt x).toUInt32 >>> ((Int32.ofInt y).toUInt32 &&& Int32.toUInt32 31)).toInt32 = Int32.ofInt (iushr_ x y) := (Int32.ofInt_toInt _).symm
theorem i64_and (x y : Int) : Int64.ofInt x &&& Int64.ofInt y = Int64.ofInt (land_ x y) := (Int64.ofInt_toInt _).symm
theorem i64_or (x y : Int) : Int64.ofInt x ||| Int64.ofInt y = Int64.ofInt (lor_ x y) := (Int64.ofInt_toInt _).symm
theorem i64_shl (x y : Int) : Int64.ofInt x <<< ((Int32.ofInt y).toInt64 &&& 63) = Int64.ofInt (lshl_ x y) := (Int64.ofInt_toInt _).symm
theorem i32_max {x y : Int} (hx : in32 x) (hy : in32 y) : (if Int32.ofInt x < Int32.ofInt y then Int32.ofInt y else Int32.ofInt x) = Int32.ofInt (max x y) := by
  simp only [i32_lt hx hy]
  split
  · rw [show max x y = y by omega]
  · rw [show max x y = x by omega]
