/-! ===== the law's loop, out of calls that answer alike (wip/gen/mk50.py) ===== -/
theorem lcmp_self (x : Int) : lcmp_ x x = 0 := by unfold lcmp_; rw [if_neg (by omega), if_pos rfl]
theorem wr_small {i : Int} (h : 0 ≤ i ∧ i < 100000) : wr i = i := wr_id (by unfold in32; omega)
/-- a call on both objects answers alike, and what held holds -/
def Alk (d : Nat) (Inv : Mem → Prop) (mx mr : Nat) (a : List Int) : Prop := ∀ s, Inv s → ∃ r t u, sem d mx (0 :: a) s = some (r, t) ∧ sem d mr (137 :: a) t = some (r, u) ∧ Inv u
theorem lw_272 {d : Nat} {xs : Int → Int} {L i R r : Int} {s t u T : Mem} (hi : 0 ≤ i ∧ i + 6 ≤ L ∧ L ≤ 384) (h1 : sem d 0 [0] s = some (r, t)) (h2 : sem d 213 [137] t = some (r, u)) (k : Gx (sem d) xs L o_law 1973 [] [0, 0, 137, i] u R T) : Gx (sem d) xs L o_law 272 [] [0, 0, 137, i] s R T := by
  have w1 := wr_small (i := i + 1) (by omega)
  have w2 := wr_small (i := i + 2) (by omega)
  have w3 := wr_small (i := i + 3) (by omega)
  have w4 := wr_small (i := i + 4) (by omega)
  have w5 := wr_small (i := i + 5) (by omega)
  have c1 : 0 ≤ i + 1 ∧ i + 1 < L := by omega
  have c2 : 0 ≤ i + 2 ∧ i + 2 < L := by omega
  have c3 : 0 ≤ i + 3 ∧ i + 3 < L := by omega
  have c4 : 0 ≤ i + 4 ∧ i + 4 < L := by omega
  have c5 : 0 ≤ i + 5 ∧ i + 5 < L := by omega
  rw [b_law_272]
  simp only [rn, lget_0, lget_s, w1, w2, w3, w4, w5, c1, c2, c3, c4, c5, and_self, if_true, h1, h2, cal_some, lcmp_self, GR_some]
  exact k
theorem lw_285 {d : Nat} {xs : Int → Int} {L i R r : Int} {s t u T : Mem} (hi : 0 ≤ i ∧ i + 6 ≤ L ∧ L ≤ 384) (h1 : sem d 1 [0] s = some (r, t)) (h2 : sem d 214 [137] t = some (r, u)) (k : Gx (sem d) xs L o_law 1973 [] [0, 0, 137, i] u R T) : Gx (sem d) xs L o_law 285 [] [0, 0, 137, i] s R T := by
  have w1 := wr_small (i := i + 1) (by omega)
  have w2 := wr_small (i := i + 2) (by omega)
  have w3 := wr_small (i := i + 3) (by omega)
  have w4 := wr_small (i := i + 4) (by omega)
  have w5 := wr_small (i := i + 5) (by omega)
  have c1 : 0 ≤ i + 1 ∧ i + 1 < L := by omega
  have c2 : 0 ≤ i + 2 ∧ i + 2 < L := by omega
  have c3 : 0 ≤ i + 3 ∧ i + 3 < L := by omega
  have c4 : 0 ≤ i + 4 ∧ i + 4 < L := by omega
  have c5 : 0 ≤ i + 5 ∧ i + 5 < L := by omega
  rw [b_law_285]
  simp only [rn, lget_0, lget_s, w1, w2, w3, w4, w5, c1, c2, c3, c4, c5, and_self, if_true, h1, h2, cal_some, lcmp_self, GR_some]
  exact k
theorem lw_299 {d : Nat} {xs : Int → Int} {L i R r : Int} {s t u T : Mem} (hi : 0 ≤ i ∧ i + 6 ≤ L ∧ L ≤ 384) (h1 : sem d 2 [0] s = some (r, t)) (h2 : sem d 215 [137] t = some (r, u)) (k : Gx (sem d) xs L o_law 1973 [] [0, 0, 137, i] u R T) : Gx (sem d) xs L o_law 299 [] [0, 0, 137, i] s R T := by
  have w1 := wr_small (i := i + 1) (by omega)
  have w2 := wr_small (i := i + 2) (by omega)
  have w3 := wr_small (i := i + 3) (by omega)
  have w4 := wr_small (i := i + 4) (by omega)
  have w5 := wr_small (i := i + 5) (by omega)
  have c1 : 0 ≤ i + 1 ∧ i + 1 < L := by omega
  have c2 : 0 ≤ i + 2 ∧ i + 2 < L := by omega
  have c3 : 0 ≤ i + 3 ∧ i + 3 < L := by omega
  have c4 : 0 ≤ i + 4 ∧ i + 4 < L := by omega
  have c5 : 0 ≤ i + 5 ∧ i + 5 < L := by omega
  rw [b_law_299]
  simp only [rn, lget_0, lget_s, w1, w2, w3, w4, w5, c1, c2, c3, c4, c5, and_self, if_true, h1, h2, cal_some, lcmp_self, GR_some]
  exact k
theorem lw_313 {d : Nat} {xs : Int → Int} {L i R r : Int} {s t u T : Mem} (hi : 0 ≤ i ∧ i + 6 ≤ L ∧ L ≤ 384) (h1 : sem d 3 [0, xs (i + 1), xs (i + 2), xs (i + 3)] s = some (r, t)) (h2 : sem d 216 [137, xs (i + 1), xs (i + 2), xs (i + 3)] t = some (r, u)) (k : Gx (sem d) xs L o_law 1973 [] [0, 0, 137, i] u R T) : Gx (sem d) xs L o_law 313 [] [0, 0, 137, i] s R T := by
  have w1 := wr_small (i := i + 1) (by omega)
  have w2 := wr_small (i := i + 2) (by omega)
  have w3 := wr_small (i := i + 3) (by omega)
  have w4 := wr_small (i := i + 4) (by omega)
  have w5 := wr_small (i := i + 5) (by omega)
  have c1 : 0 ≤ i + 1 ∧ i + 1 < L := by omega
  have c2 : 0 ≤ i + 2 ∧ i + 2 < L := by omega
  have c3 : 0 ≤ i + 3 ∧ i + 3 < L := by omega
  have c4 : 0 ≤ i + 4 ∧ i + 4 < L := by omega
  have c5 : 0 ≤ i + 5 ∧ i + 5 < L := by omega
  rw [b_law_313]
  simp only [rn, lget_0, lget_s, w1, w2, w3, w4, w5, c1, c2, c3, c4, c5, and_self, if_true, h1, h2, cal_some, lcmp_self, GR_some]
  exact k
theorem lw_356 {d : Nat} {xs : Int → Int} {L i R r : Int} {s t u T : Mem} (hi : 0 ≤ i ∧ i + 6 ≤ L ∧ L ≤ 384) (h1 : sem d 8 [0, xs (i + 1), xs (i + 2), lor_ (lshl_ (xs (i + 3)) 32) (land_ (xs (i + 4)) 4294967295)] s = some (r, t)) (h2 : sem d 219 [137, xs (i + 1), xs (i + 2), lor_ (lshl_ (xs (i + 3)) 32) (land_ (xs (i + 4)) 4294967295)] t = some (r, u)) (k : Gx (sem d) xs L o_law 1973 [] [0, 0, 137, i] u R T) : Gx (sem d) xs L o_law 356 [] [0, 0, 137, i] s R T := by
  have w1 := wr_small (i := i + 1) (by omega)
  have w2 := wr_small (i := i + 2) (by omega)
  have w3 := wr_small (i := i + 3) (by omega)
  have w4 := wr_small (i := i + 4) (by omega)
  have w5 := wr_small (i := i + 5) (by omega)
  have c1 : 0 ≤ i + 1 ∧ i + 1 < L := by omega
  have c2 : 0 ≤ i + 2 ∧ i + 2 < L := by omega
  have c3 : 0 ≤ i + 3 ∧ i + 3 < L := by omega
  have c4 : 0 ≤ i + 4 ∧ i + 4 < L := by omega
  have c5 : 0 ≤ i + 5 ∧ i + 5 < L := by omega
  rw [b_law_356]
  simp only [rn, lget_0, lget_s, w1, w2, w3, w4, w5, c1, c2, c3, c4, c5, and_self, if_true, h1, h2, cal_some, lcmp_self, GR_some]
  exact k
theorem lw_429 {d : Nat} {xs : Int → Int} {L i R r : Int} {s t u T : Mem} (hi : 0 ≤ i ∧ i + 6 ≤ L ∧ L ≤ 384) (h1 : sem d 13 [0, xs (i + 1), xs (i + 2)] s = some (r, t)) (h2 : sem d 222 [137, xs (i + 1), xs (i + 2)] t = some (r, u)) (k : Gx (sem d) xs L o_law 1973 [] [0, 0, 137, i] u R T) : Gx (sem d) xs L o_law 429 [] [0, 0, 137, i] s R T := by
  have w1 := wr_small (i := i + 1) (by omega)
  have w2 := wr_small (i := i + 2) (by omega)
  have w3 := wr_small (i := i + 3) (by omega)
  have w4 := wr_small (i := i + 4) (by omega)
  have w5 := wr_small (i := i + 5) (by omega)
  have c1 : 0 ≤ i + 1 ∧ i + 1 < L := by omega
  have c2 : 0 ≤ i + 2 ∧ i + 2 < L := by omega
  have c3 : 0 ≤ i + 3 ∧ i + 3 < L := by omega
  have c4 : 0 ≤ i + 4 ∧ i + 4 < L := by omega
  have c5 : 0 ≤ i + 5 ∧ i + 5 < L := by omega
  rw [b_law_429]
  simp only [rn, lget_0, lget_s, w1, w2, w3, w4, w5, c1, c2, c3, c4, c5, and_self, if_true, h1, h2, cal_some, lcmp_self, GR_some]
  exact k
theorem lw_463 {d : Nat} {xs : Int → Int} {L i R r : Int} {s t u T : Mem} (hi : 0 ≤ i ∧ i + 6 ≤ L ∧ L ≤ 384) (h1 : sem d 15 [0, xs (i + 1), xs (i + 2), xs (i + 3), xs (i + 4), xs (i + 5)] s = some (r, t)) (h2 : sem d 223 [137, xs (i + 1), xs (i + 2), xs (i + 3), xs (i + 4), xs (i + 5)] t = some (r, u)) (k : Gx (sem d) xs L o_law 1973 [] [0, 0, 137, i] u R T) : Gx (sem d) xs L o_law 463 [] [0, 0, 137, i] s R T := by
  have w1 := wr_small (i := i + 1) (by omega)
  have w2 := wr_small (i := i + 2) (by omega)
  have w3 := wr_small (i := i + 3) (by omega)
  have w4 := wr_small (i := i + 4) (by omega)
  have w5 := wr_small (i := i + 5) (by omega)
  have c1 : 0 ≤ i + 1 ∧ i + 1 < L := by omega
  have c2 : 0 ≤ i + 2 ∧ i + 2 < L := by omega
  have c3 : 0 ≤ i + 3 ∧ i + 3 < L := by omega
  have c4 : 0 ≤ i + 4 ∧ i + 4 < L := by omega
  have c5 : 0 ≤ i + 5 ∧ i + 5 < L := by omega
  rw [b_law_463]
  simp only [rn, lget_0, lget_s, w1, w2, w3, w4, w5, c1, c2, c3, c4, c5, and_self, if_true, h1, h2, cal_some, lcmp_self, GR_some]
  exact k
theorem lw_526 {d : Nat} {xs : Int → Int} {L i R r : Int} {s t u T : Mem} (hi : 0 ≤ i ∧ i + 6 ≤ L ∧ L ≤ 384) (h1 : sem d 18 [0, xs (i + 1), xs (i + 2), xs (i + 3), xs (i + 4), xs (i + 5)] s = some (r, t)) (h2 : sem d 224 [137, xs (i + 1), xs (i + 2), xs (i + 3), xs (i + 4), xs (i + 5)] t = some (r, u)) (k : Gx (sem d) xs L o_law 1973 [] [0, 0, 137, i] u R T) : Gx (sem d) xs L o_law 526 [] [0, 0, 137, i] s R T := by
  have w1 := wr_small (i := i + 1) (by omega)
  have w2 := wr_small (i := i + 2) (by omega)
  have w3 := wr_small (i := i + 3) (by omega)
  have w4 := wr_small (i := i + 4) (by omega)
  have w5 := wr_small (i := i + 5) (by omega)
  have c1 : 0 ≤ i + 1 ∧ i + 1 < L := by omega
  have c2 : 0 ≤ i + 2 ∧ i + 2 < L := by omega
  have c3 : 0 ≤ i + 3 ∧ i + 3 < L := by omega
  have c4 : 0 ≤ i + 4 ∧ i + 4 < L := by omega
  have c5 : 0 ≤ i + 5 ∧ i + 5 < L := by omega
  rw [b_law_526]
  simp only [rn, lget_0, lget_s, w1, w2, w3, w4, w5, c1, c2, c3, c4, c5, and_self, if_true, h1, h2, cal_some, lcmp_self, GR_some]
  exact k
theorem lw_589 {d : Nat} {xs : Int → Int} {L i R r : Int} {s t u T : Mem} (hi : 0 ≤ i ∧ i + 6 ≤ L ∧ L ≤ 384) (h1 : sem d 20 [0, xs (i + 1)] s = some (r, t)) (h2 : sem d 227 [137, xs (i + 1)] t = some (r, u)) (k : Gx (sem d) xs L o_law 1973 [] [0, 0, 137, i] u R T) : Gx (sem d) xs L o_law 589 [] [0, 0, 137, i] s R T := by
  have w1 := wr_small (i := i + 1) (by omega)
  have w2 := wr_small (i := i + 2) (by omega)
  have w3 := wr_small (i := i + 3) (by omega)
  have w4 := wr_small (i := i + 4) (by omega)
  have w5 := wr_small (i := i + 5) (by omega)
  have c1 : 0 ≤ i + 1 ∧ i + 1 < L := by omega
  have c2 : 0 ≤ i + 2 ∧ i + 2 < L := by omega
  have c3 : 0 ≤ i + 3 ∧ i + 3 < L := by omega
  have c4 : 0 ≤ i + 4 ∧ i + 4 < L := by omega
  have c5 : 0 ≤ i + 5 ∧ i + 5 < L := by omega
  rw [b_law_589]
  simp only [rn, lget_0, lget_s, w1, w2, w3, w4, w5, c1, c2, c3, c4, c5, and_self, if_true, h1, h2, cal_some, lcmp_self, GR_some]
  exact k
theorem lw_612 {d : Nat} {xs : Int → Int} {L i R r : Int} {s t u T : Mem} (hi : 0 ≤ i ∧ i + 6 ≤ L ∧ L ≤ 384) (h1 : sem d 71 [0, xs (i + 1)] s = some (r, t)) (h2 : sem d 262 [137, xs (i + 1)] t = some (r, u)) (k : Gx (sem d) xs L o_law 1973 [] [0, 0, 137, i] u R T) : Gx (sem d) xs L o_law 612 [] [0, 0, 137, i] s R T := by
  have w1 := wr_small (i := i + 1) (by omega)
  have w2 := wr_small (i := i + 2) (by omega)
  have w3 := wr_small (i := i + 3) (by omega)
  have w4 := wr_small (i := i + 4) (by omega)
  have w5 := wr_small (i := i + 5) (by omega)
  have c1 : 0 ≤ i + 1 ∧ i + 1 < L := by omega
  have c2 : 0 ≤ i + 2 ∧ i + 2 < L := by omega
  have c3 : 0 ≤ i + 3 ∧ i + 3 < L := by omega
  have c4 : 0 ≤ i + 4 ∧ i + 4 < L := by omega
  have c5 : 0 ≤ i + 5 ∧ i + 5 < L := by omega
  rw [b_law_612]
  simp only [rn, lget_0, lget_s, w1, w2, w3, w4, w5, c1, c2, c3, c4, c5, and_self, if_true, h1, h2, cal_some, lcmp_self, GR_some]
  exact k
theorem lw_635 {d : Nat} {xs : Int → Int} {L i R r : Int} {s t u T : Mem} (hi : 0 ≤ i ∧ i + 6 ≤ L ∧ L ≤ 384) (h1 : sem d 85 [0, xs (i + 1)] s = some (r, t)) (h2 : sem d 226 [137, xs (i + 1)] t = some (r, u)) (k : Gx (sem d) xs L o_law 1973 [] [0, 0, 137, i] u R T) : Gx (sem d) xs L o_law 635 [] [0, 0, 137, i] s R T := by
  have w1 := wr_small (i := i + 1) (by omega)
  have w2 := wr_small (i := i + 2) (by omega)
  have w3 := wr_small (i := i + 3) (by omega)
  have w4 := wr_small (i := i + 4) (by omega)
  have w5 := wr_small (i := i + 5) (by omega)
  have c1 : 0 ≤ i + 1 ∧ i + 1 < L := by omega
  have c2 : 0 ≤ i + 2 ∧ i + 2 < L := by omega
  have c3 : 0 ≤ i + 3 ∧ i + 3 < L := by omega
  have c4 : 0 ≤ i + 4 ∧ i + 4 < L := by omega
  have c5 : 0 ≤ i + 5 ∧ i + 5 < L := by omega
  rw [b_law_635]
  simp only [rn, lget_0, lget_s, w1, w2, w3, w4, w5, c1, c2, c3, c4, c5, and_self, if_true, h1, h2, cal_some, lcmp_self, GR_some]
  exact k
theorem lw_658 {d : Nat} {xs : Int → Int} {L i R r : Int} {s t u T : Mem} (hi : 0 ≤ i ∧ i + 6 ≤ L ∧ L ≤ 384) (h1 : sem d 86 [0, xs (i + 1)] s = some (r, t)) (h2 : sem d 268 [137, xs (i + 1)] t = some (r, u)) (k : Gx (sem d) xs L o_law 1973 [] [0, 0, 137, i] u R T) : Gx (sem d) xs L o_law 658 [] [0, 0, 137, i] s R T := by
  have w1 := wr_small (i := i + 1) (by omega)
  have w2 := wr_small (i := i + 2) (by omega)
  have w3 := wr_small (i := i + 3) (by omega)
  have w4 := wr_small (i := i + 4) (by omega)
  have w5 := wr_small (i := i + 5) (by omega)
  have c1 : 0 ≤ i + 1 ∧ i + 1 < L := by omega
  have c2 : 0 ≤ i + 2 ∧ i + 2 < L := by omega
  have c3 : 0 ≤ i + 3 ∧ i + 3 < L := by omega
  have c4 : 0 ≤ i + 4 ∧ i + 4 < L := by omega
  have c5 : 0 ≤ i + 5 ∧ i + 5 < L := by omega
  rw [b_law_658]
  simp only [rn, lget_0, lget_s, w1, w2, w3, w4, w5, c1, c2, c3, c4, c5, and_self, if_true, h1, h2, cal_some, lcmp_self, GR_some]
  exact k
theorem lw_681 {d : Nat} {xs : Int → Int} {L i R r : Int} {s t u T : Mem} (hi : 0 ≤ i ∧ i + 6 ≤ L ∧ L ≤ 384) (h1 : sem d 88 [0, xs (i + 1), xs (i + 2)] s = some (r, t)) (h2 : sem d 270 [137, xs (i + 1), xs (i + 2)] t = some (r, u)) (k : Gx (sem d) xs L o_law 1973 [] [0, 0, 137, i] u R T) : Gx (sem d) xs L o_law 681 [] [0, 0, 137, i] s R T := by
  have w1 := wr_small (i := i + 1) (by omega)
  have w2 := wr_small (i := i + 2) (by omega)
  have w3 := wr_small (i := i + 3) (by omega)
  have w4 := wr_small (i := i + 4) (by omega)
  have w5 := wr_small (i := i + 5) (by omega)
  have c1 : 0 ≤ i + 1 ∧ i + 1 < L := by omega
  have c2 : 0 ≤ i + 2 ∧ i + 2 < L := by omega
  have c3 : 0 ≤ i + 3 ∧ i + 3 < L := by omega
  have c4 : 0 ≤ i + 4 ∧ i + 4 < L := by omega
  have c5 : 0 ≤ i + 5 ∧ i + 5 < L := by omega
  rw [b_law_681]
  simp only [rn, lget_0, lget_s, w1, w2, w3, w4, w5, c1, c2, c3, c4, c5, and_self, if_true, h1, h2, cal_some, lcmp_self, GR_some]
  exact k
theorem lw_714 {d : Nat} {xs : Int → Int} {L i R r : Int} {s t u T : Mem} (hi : 0 ≤ i ∧ i + 6 ≤ L ∧ L ≤ 384) (h1 : sem d 90 [0, xs (i + 1)] s = some (r, t)) (h2 : sem d 271 [137, xs (i + 1)] t = some (r, u)) (k : Gx (sem d) xs L o_law 1973 [] [0, 0, 137, i] u R T) : Gx (sem d) xs L o_law 714 [] [0, 0, 137, i] s R T := by
  have w1 := wr_small (i := i + 1) (by omega)
  have w2 := wr_small (i := i + 2) (by omega)
  have w3 := wr_small (i := i + 3) (by omega)
  have w4 := wr_small (i := i + 4) (by omega)
  have w5 := wr_small (i := i + 5) (by omega)
  have c1 : 0 ≤ i + 1 ∧ i + 1 < L := by omega
  have c2 : 0 ≤ i + 2 ∧ i + 2 < L := by omega
  have c3 : 0 ≤ i + 3 ∧ i + 3 < L := by omega
  have c4 : 0 ≤ i + 4 ∧ i + 4 < L := by omega
  have c5 : 0 ≤ i + 5 ∧ i + 5 < L := by omega
  rw [b_law_714]
  simp only [rn, lget_0, lget_s, w1, w2, w3, w4, w5, c1, c2, c3, c4, c5, and_self, if_true, h1, h2, cal_some, lcmp_self, GR_some]
  exact k
theorem lw_737 {d : Nat} {xs : Int → Int} {L i R r : Int} {s t u T : Mem} (hi : 0 ≤ i ∧ i + 6 ≤ L ∧ L ≤ 384) (h1 : sem d 92 [0, xs (i + 1), xs (i + 2)] s = some (r, t)) (h2 : sem d 273 [137, xs (i + 1), xs (i + 2)] t = some (r, u)) (k : Gx (sem d) xs L o_law 1973 [] [0, 0, 137, i] u R T) : Gx (sem d) xs L o_law 737 [] [0, 0, 137, i] s R T := by
  have w1 := wr_small (i := i + 1) (by omega)
  have w2 := wr_small (i := i + 2) (by omega)
  have w3 := wr_small (i := i + 3) (by omega)
  have w4 := wr_small (i := i + 4) (by omega)
  have w5 := wr_small (i := i + 5) (by omega)
  have c1 : 0 ≤ i + 1 ∧ i + 1 < L := by omega
  have c2 : 0 ≤ i + 2 ∧ i + 2 < L := by omega
  have c3 : 0 ≤ i + 3 ∧ i + 3 < L := by omega
  have c4 : 0 ≤ i + 4 ∧ i + 4 < L := by omega
  have c5 : 0 ≤ i + 5 ∧ i + 5 < L := by omega
  rw [b_law_737]
  simp only [rn, lget_0, lget_s, w1, w2, w3, w4, w5, c1, c2, c3, c4, c5, and_self, if_true, h1, h2, cal_some, lcmp_self, GR_some]
  exact k
theorem lw_770 {d : Nat} {xs : Int → Int} {L i R r : Int} {s t u T : Mem} (hi : 0 ≤ i ∧ i + 6 ≤ L ∧ L ≤ 384) (h1 : sem d 94 [0, xs (i + 1), xs (i + 2), xs (i + 3)] s = some (r, t)) (h2 : sem d 275 [137, xs (i + 1), xs (i + 2), xs (i + 3)] t = some (r, u)) (k : Gx (sem d) xs L o_law 1973 [] [0, 0, 137, i] u R T) : Gx (sem d) xs L o_law 770 [] [0, 0, 137, i] s R T := by
  have w1 := wr_small (i := i + 1) (by omega)
  have w2 := wr_small (i := i + 2) (by omega)
  have w3 := wr_small (i := i + 3) (by omega)
  have w4 := wr_small (i := i + 4) (by omega)
  have w5 := wr_small (i := i + 5) (by omega)
  have c1 : 0 ≤ i + 1 ∧ i + 1 < L := by omega
  have c2 : 0 ≤ i + 2 ∧ i + 2 < L := by omega
  have c3 : 0 ≤ i + 3 ∧ i + 3 < L := by omega
  have c4 : 0 ≤ i + 4 ∧ i + 4 < L := by omega
  have c5 : 0 ≤ i + 5 ∧ i + 5 < L := by omega
  rw [b_law_770]
  simp only [rn, lget_0, lget_s, w1, w2, w3, w4, w5, c1, c2, c3, c4, c5, and_self, if_true, h1, h2, cal_some, lcmp_self, GR_some]
  exact k
theorem lw_813 {d : Nat} {xs : Int → Int} {L i R r : Int} {s t u T : Mem} (hi : 0 ≤ i ∧ i + 6 ≤ L ∧ L ≤ 384) (h1 : sem d 96 [0, xs (i + 1), xs (i + 2)] s = some (r, t)) (h2 : sem d 278 [137, xs (i + 1), xs (i + 2)] t = some (r, u)) (k : Gx (sem d) xs L o_law 1973 [] [0, 0, 137, i] u R T) : Gx (sem d) xs L o_law 813 [] [0, 0, 137, i] s R T := by
  have w1 := wr_small (i := i + 1) (by omega)
  have w2 := wr_small (i := i + 2) (by omega)
  have w3 := wr_small (i := i + 3) (by omega)
  have w4 := wr_small (i := i + 4) (by omega)
  have w5 := wr_small (i := i + 5) (by omega)
  have c1 : 0 ≤ i + 1 ∧ i + 1 < L := by omega
  have c2 : 0 ≤ i + 2 ∧ i + 2 < L := by omega
  have c3 : 0 ≤ i + 3 ∧ i + 3 < L := by omega
  have c4 : 0 ≤ i + 4 ∧ i + 4 < L := by omega
  have c5 : 0 ≤ i + 5 ∧ i + 5 < L := by omega
  rw [b_law_813]
  simp only [rn, lget_0, lget_s, w1, w2, w3, w4, w5, c1, c2, c3, c4, c5, and_self, if_true, h1, h2, cal_some, lcmp_self, GR_some]
  exact k
theorem lw_846 {d : Nat} {xs : Int → Int} {L i R r : Int} {s t u T : Mem} (hi : 0 ≤ i ∧ i + 6 ≤ L ∧ L ≤ 384) (h1 : sem d 101 [0, xs (i + 1), xs (i + 2), xs (i + 3)] s = some (r, t)) (h2 : sem d 284 [137, xs (i + 1), xs (i + 2), xs (i + 3)] t = some (r, u)) (k : Gx (sem d) xs L o_law 1973 [] [0, 0, 137, i] u R T) : Gx (sem d) xs L o_law 846 [] [0, 0, 137, i] s R T := by
  have w1 := wr_small (i := i + 1) (by omega)
  have w2 := wr_small (i := i + 2) (by omega)
  have w3 := wr_small (i := i + 3) (by omega)
  have w4 := wr_small (i := i + 4) (by omega)
  have w5 := wr_small (i := i + 5) (by omega)
  have c1 : 0 ≤ i + 1 ∧ i + 1 < L := by omega
  have c2 : 0 ≤ i + 2 ∧ i + 2 < L := by omega
  have c3 : 0 ≤ i + 3 ∧ i + 3 < L := by omega
  have c4 : 0 ≤ i + 4 ∧ i + 4 < L := by omega
  have c5 : 0 ≤ i + 5 ∧ i + 5 < L := by omega
  rw [b_law_846]
  simp only [rn, lget_0, lget_s, w1, w2, w3, w4, w5, c1, c2, c3, c4, c5, and_self, if_true, h1, h2, cal_some, lcmp_self, GR_some]
  exact k
theorem lw_889 {d : Nat} {xs : Int → Int} {L i R r : Int} {s t u T : Mem} (hi : 0 ≤ i ∧ i + 6 ≤ L ∧ L ≤ 384) (h1 : sem d 102 [0, xs (i + 1)] s = some (r, t)) (h2 : sem d 288 [137, xs (i + 1)] t = some (r, u)) (k : Gx (sem d) xs L o_law 1973 [] [0, 0, 137, i] u R T) : Gx (sem d) xs L o_law 889 [] [0, 0, 137, i] s R T := by
  have w1 := wr_small (i := i + 1) (by omega)
  have w2 := wr_small (i := i + 2) (by omega)
  have w3 := wr_small (i := i + 3) (by omega)
  have w4 := wr_small (i := i + 4) (by omega)
  have w5 := wr_small (i := i + 5) (by omega)
  have c1 : 0 ≤ i + 1 ∧ i + 1 < L := by omega
  have c2 : 0 ≤ i + 2 ∧ i + 2 < L := by omega
  have c3 : 0 ≤ i + 3 ∧ i + 3 < L := by omega
  have c4 : 0 ≤ i + 4 ∧ i + 4 < L := by omega
  have c5 : 0 ≤ i + 5 ∧ i + 5 < L := by omega
  rw [b_law_889]
  simp only [rn, lget_0, lget_s, w1, w2, w3, w4, w5, c1, c2, c3, c4, c5, and_self, if_true, h1, h2, cal_some, lcmp_self, GR_some]
  exact k
theorem lw_912 {d : Nat} {xs : Int → Int} {L i R r : Int} {s t u T : Mem} (hi : 0 ≤ i ∧ i + 6 ≤ L ∧ L ≤ 384) (h1 : sem d 104 [0, xs (i + 1), xs (i + 2)] s = some (r, t)) (h2 : sem d 290 [137, xs (i + 1), xs (i + 2)] t = some (r, u)) (k : Gx (sem d) xs L o_law 1973 [] [0, 0, 137, i] u R T) : Gx (sem d) xs L o_law 912 [] [0, 0, 137, i] s R T := by
  have w1 := wr_small (i := i + 1) (by omega)
  have w2 := wr_small (i := i + 2) (by omega)
  have w3 := wr_small (i := i + 3) (by omega)
  have w4 := wr_small (i := i + 4) (by omega)
  have w5 := wr_small (i := i + 5) (by omega)
  have c1 : 0 ≤ i + 1 ∧ i + 1 < L := by omega
  have c2 : 0 ≤ i + 2 ∧ i + 2 < L := by omega
  have c3 : 0 ≤ i + 3 ∧ i + 3 < L := by omega
  have c4 : 0 ≤ i + 4 ∧ i + 4 < L := by omega
  have c5 : 0 ≤ i + 5 ∧ i + 5 < L := by omega
  rw [b_law_912]
  simp only [rn, lget_0, lget_s, w1, w2, w3, w4, w5, c1, c2, c3, c4, c5, and_self, if_true, h1, h2, cal_some, lcmp_self, GR_some]
  exact k
theorem lw_945 {d : Nat} {xs : Int → Int} {L i R r : Int} {s t u T : Mem} (hi : 0 ≤ i ∧ i + 6 ≤ L ∧ L ≤ 384) (h1 : sem d 106 [0, xs (i + 1), xs (i + 2)] s = some (r, t)) (h2 : sem d 292 [137, xs (i + 1), xs (i + 2)] t = some (r, u)) (k : Gx (sem d) xs L o_law 1973 [] [0, 0, 137, i] u R T) : Gx (sem d) xs L o_law 945 [] [0, 0, 137, i] s R T := by
  have w1 := wr_small (i := i + 1) (by omega)
  have w2 := wr_small (i := i + 2) (by omega)
  have w3 := wr_small (i := i + 3) (by omega)
  have w4 := wr_small (i := i + 4) (by omega)
  have w5 := wr_small (i := i + 5) (by omega)
  have c1 : 0 ≤ i + 1 ∧ i + 1 < L := by omega
  have c2 : 0 ≤ i + 2 ∧ i + 2 < L := by omega
  have c3 : 0 ≤ i + 3 ∧ i + 3 < L := by omega
  have c4 : 0 ≤ i + 4 ∧ i + 4 < L := by omega
  have c5 : 0 ≤ i + 5 ∧ i + 5 < L := by omega
  rw [b_law_945]
  simp only [rn, lget_0, lget_s, w1, w2, w3, w4, w5, c1, c2, c3, c4, c5, and_self, if_true, h1, h2, cal_some, lcmp_self, GR_some]
  exact k
theorem lw_978 {d : Nat} {xs : Int → Int} {L i R r : Int} {s t u T : Mem} (hi : 0 ≤ i ∧ i + 6 ≤ L ∧ L ≤ 384) (h1 : sem d 107 [0, xs (i + 1), xs (i + 2), xs (i + 3)] s = some (r, t)) (h2 : sem d 293 [137, xs (i + 1), xs (i + 2), xs (i + 3)] t = some (r, u)) (k : Gx (sem d) xs L o_law 1973 [] [0, 0, 137, i] u R T) : Gx (sem d) xs L o_law 978 [] [0, 0, 137, i] s R T := by
  have w1 := wr_small (i := i + 1) (by omega)
  have w2 := wr_small (i := i + 2) (by omega)
  have w3 := wr_small (i := i + 3) (by omega)
  have w4 := wr_small (i := i + 4) (by omega)
  have w5 := wr_small (i := i + 5) (by omega)
  have c1 : 0 ≤ i + 1 ∧ i + 1 < L := by omega
  have c2 : 0 ≤ i + 2 ∧ i + 2 < L := by omega
  have c3 : 0 ≤ i + 3 ∧ i + 3 < L := by omega
  have c4 : 0 ≤ i + 4 ∧ i + 4 < L := by omega
  have c5 : 0 ≤ i + 5 ∧ i + 5 < L := by omega
  rw [b_law_978]
  simp only [rn, lget_0, lget_s, w1, w2, w3, w4, w5, c1, c2, c3, c4, c5, and_self, if_true, h1, h2, cal_some, lcmp_self, GR_some]
  exact k
theorem lw_1021 {d : Nat} {xs : Int → Int} {L i R r : Int} {s t u T : Mem} (hi : 0 ≤ i ∧ i + 6 ≤ L ∧ L ≤ 384) (h1 : sem d 108 [0, xs (i + 1), xs (i + 2), xs (i + 3), xs (i + 4)] s = some (r, t)) (h2 : sem d 294 [137, xs (i + 1), xs (i + 2), xs (i + 3), xs (i + 4)] t = some (r, u)) (k : Gx (sem d) xs L o_law 1973 [] [0, 0, 137, i] u R T) : Gx (sem d) xs L o_law 1021 [] [0, 0, 137, i] s R T := by
  have w1 := wr_small (i := i + 1) (by omega)
  have w2 := wr_small (i := i + 2) (by omega)
  have w3 := wr_small (i := i + 3) (by omega)
  have w4 := wr_small (i := i + 4) (by omega)
  have w5 := wr_small (i := i + 5) (by omega)
  have c1 : 0 ≤ i + 1 ∧ i + 1 < L := by omega
  have c2 : 0 ≤ i + 2 ∧ i + 2 < L := by omega
  have c3 : 0 ≤ i + 3 ∧ i + 3 < L := by omega
  have c4 : 0 ≤ i + 4 ∧ i + 4 < L := by omega
  have c5 : 0 ≤ i + 5 ∧ i + 5 < L := by omega
  rw [b_law_1021]
  simp only [rn, lget_0, lget_s, w1, w2, w3, w4, w5, c1, c2, c3, c4, c5, and_self, if_true, h1, h2, cal_some, lcmp_self, GR_some]
  exact k
theorem lw_1074 {d : Nat} {xs : Int → Int} {L i R r : Int} {s t u T : Mem} (hi : 0 ≤ i ∧ i + 6 ≤ L ∧ L ≤ 384) (h1 : sem d 110 [0, xs (i + 1)] s = some (r, t)) (h2 : sem d 295 [137, xs (i + 1)] t = some (r, u)) (k : Gx (sem d) xs L o_law 1973 [] [0, 0, 137, i] u R T) : Gx (sem d) xs L o_law 1074 [] [0, 0, 137, i] s R T := by
  have w1 := wr_small (i := i + 1) (by omega)
  have w2 := wr_small (i := i + 2) (by omega)
  have w3 := wr_small (i := i + 3) (by omega)
  have w4 := wr_small (i := i + 4) (by omega)
  have w5 := wr_small (i := i + 5) (by omega)
  have c1 : 0 ≤ i + 1 ∧ i + 1 < L := by omega
  have c2 : 0 ≤ i + 2 ∧ i + 2 < L := by omega
  have c3 : 0 ≤ i + 3 ∧ i + 3 < L := by omega
  have c4 : 0 ≤ i + 4 ∧ i + 4 < L := by omega
  have c5 : 0 ≤ i + 5 ∧ i + 5 < L := by omega
  rw [b_law_1074]
  simp only [rn, lget_0, lget_s, w1, w2, w3, w4, w5, c1, c2, c3, c4, c5, and_self, if_true, h1, h2, cal_some, lcmp_self, GR_some]
  exact k
theorem lw_1097 {d : Nat} {xs : Int → Int} {L i R r : Int} {s t u T : Mem} (hi : 0 ≤ i ∧ i + 6 ≤ L ∧ L ≤ 384) (h1 : sem d 111 [0] s = some (r, t)) (h2 : sem d 296 [137] t = some (r, u)) (k : Gx (sem d) xs L o_law 1973 [] [0, 0, 137, i] u R T) : Gx (sem d) xs L o_law 1097 [] [0, 0, 137, i] s R T := by
  have w1 := wr_small (i := i + 1) (by omega)
  have w2 := wr_small (i := i + 2) (by omega)
  have w3 := wr_small (i := i + 3) (by omega)
  have w4 := wr_small (i := i + 4) (by omega)
  have w5 := wr_small (i := i + 5) (by omega)
  have c1 : 0 ≤ i + 1 ∧ i + 1 < L := by omega
  have c2 : 0 ≤ i + 2 ∧ i + 2 < L := by omega
  have c3 : 0 ≤ i + 3 ∧ i + 3 < L := by omega
  have c4 : 0 ≤ i + 4 ∧ i + 4 < L := by omega
  have c5 : 0 ≤ i + 5 ∧ i + 5 < L := by omega
  rw [b_law_1097]
  simp only [rn, lget_0, lget_s, w1, w2, w3, w4, w5, c1, c2, c3, c4, c5, and_self, if_true, h1, h2, cal_some, lcmp_self, GR_some]
  exact k
theorem lw_1110 {d : Nat} {xs : Int → Int} {L i R r : Int} {s t u T : Mem} (hi : 0 ≤ i ∧ i + 6 ≤ L ∧ L ≤ 384) (h1 : sem d 123 [0, xs (i + 1), xs (i + 2), xs (i + 3)] s = some (r, t)) (h2 : sem d 306 [137, xs (i + 1), xs (i + 2), xs (i + 3)] t = some (r, u)) (k : Gx (sem d) xs L o_law 1973 [] [0, 0, 137, i] u R T) : Gx (sem d) xs L o_law 1110 [] [0, 0, 137, i] s R T := by
  have w1 := wr_small (i := i + 1) (by omega)
  have w2 := wr_small (i := i + 2) (by omega)
  have w3 := wr_small (i := i + 3) (by omega)
  have w4 := wr_small (i := i + 4) (by omega)
  have w5 := wr_small (i := i + 5) (by omega)
  have c1 : 0 ≤ i + 1 ∧ i + 1 < L := by omega
  have c2 : 0 ≤ i + 2 ∧ i + 2 < L := by omega
  have c3 : 0 ≤ i + 3 ∧ i + 3 < L := by omega
  have c4 : 0 ≤ i + 4 ∧ i + 4 < L := by omega
  have c5 : 0 ≤ i + 5 ∧ i + 5 < L := by omega
  rw [b_law_1110]
  simp only [rn, lget_0, lget_s, w1, w2, w3, w4, w5, c1, c2, c3, c4, c5, and_self, if_true, h1, h2, cal_some, lcmp_self, GR_some]
  exact k
theorem lw_1153 {d : Nat} {xs : Int → Int} {L i R r : Int} {s t u T : Mem} (hi : 0 ≤ i ∧ i + 6 ≤ L ∧ L ≤ 384) (h1 : sem d 125 [0, xs (i + 1), xs (i + 2)] s = some (r, t)) (h2 : sem d 280 [137, xs (i + 1), xs (i + 2)] t = some (r, u)) (k : Gx (sem d) xs L o_law 1973 [] [0, 0, 137, i] u R T) : Gx (sem d) xs L o_law 1153 [] [0, 0, 137, i] s R T := by
  have w1 := wr_small (i := i + 1) (by omega)
  have w2 := wr_small (i := i + 2) (by omega)
  have w3 := wr_small (i := i + 3) (by omega)
  have w4 := wr_small (i := i + 4) (by omega)
  have w5 := wr_small (i := i + 5) (by omega)
  have c1 : 0 ≤ i + 1 ∧ i + 1 < L := by omega
  have c2 : 0 ≤ i + 2 ∧ i + 2 < L := by omega
  have c3 : 0 ≤ i + 3 ∧ i + 3 < L := by omega
  have c4 : 0 ≤ i + 4 ∧ i + 4 < L := by omega
  have c5 : 0 ≤ i + 5 ∧ i + 5 < L := by omega
  rw [b_law_1153]
  simp only [rn, lget_0, lget_s, w1, w2, w3, w4, w5, c1, c2, c3, c4, c5, and_self, if_true, h1, h2, cal_some, lcmp_self, GR_some]
  exact k
theorem lw_1186 {d : Nat} {xs : Int → Int} {L i R r : Int} {s t u T : Mem} (hi : 0 ≤ i ∧ i + 6 ≤ L ∧ L ≤ 384) (h1 : sem d 126 [0, xs (i + 1), xs (i + 2)] s = some (r, t)) (h2 : sem d 283 [137, xs (i + 1), xs (i + 2)] t = some (r, u)) (k : Gx (sem d) xs L o_law 1973 [] [0, 0, 137, i] u R T) : Gx (sem d) xs L o_law 1186 [] [0, 0, 137, i] s R T := by
  have w1 := wr_small (i := i + 1) (by omega)
  have w2 := wr_small (i := i + 2) (by omega)
  have w3 := wr_small (i := i + 3) (by omega)
  have w4 := wr_small (i := i + 4) (by omega)
  have w5 := wr_small (i := i + 5) (by omega)
  have c1 : 0 ≤ i + 1 ∧ i + 1 < L := by omega
  have c2 : 0 ≤ i + 2 ∧ i + 2 < L := by omega
  have c3 : 0 ≤ i + 3 ∧ i + 3 < L := by omega
  have c4 : 0 ≤ i + 4 ∧ i + 4 < L := by omega
  have c5 : 0 ≤ i + 5 ∧ i + 5 < L := by omega
  rw [b_law_1186]
  simp only [rn, lget_0, lget_s, w1, w2, w3, w4, w5, c1, c2, c3, c4, c5, and_self, if_true, h1, h2, cal_some, lcmp_self, GR_some]
  exact k
theorem lw_1219 {d : Nat} {xs : Int → Int} {L i R r : Int} {s t u T : Mem} (hi : 0 ≤ i ∧ i + 6 ≤ L ∧ L ≤ 384) (h1 : sem d 127 [0, xs (i + 1), xs (i + 2)] s = some (r, t)) (h2 : sem d 308 [137, xs (i + 1), xs (i + 2)] t = some (r, u)) (k : Gx (sem d) xs L o_law 1973 [] [0, 0, 137, i] u R T) : Gx (sem d) xs L o_law 1219 [] [0, 0, 137, i] s R T := by
  have w1 := wr_small (i := i + 1) (by omega)
  have w2 := wr_small (i := i + 2) (by omega)
  have w3 := wr_small (i := i + 3) (by omega)
  have w4 := wr_small (i := i + 4) (by omega)
  have w5 := wr_small (i := i + 5) (by omega)
  have c1 : 0 ≤ i + 1 ∧ i + 1 < L := by omega
  have c2 : 0 ≤ i + 2 ∧ i + 2 < L := by omega
  have c3 : 0 ≤ i + 3 ∧ i + 3 < L := by omega
  have c4 : 0 ≤ i + 4 ∧ i + 4 < L := by omega
  have c5 : 0 ≤ i + 5 ∧ i + 5 < L := by omega
  rw [b_law_1219]
  simp only [rn, lget_0, lget_s, w1, w2, w3, w4, w5, c1, c2, c3, c4, c5, and_self, if_true, h1, h2, cal_some, lcmp_self, GR_some]
  exact k
theorem lw_1252 {d : Nat} {xs : Int → Int} {L i R r : Int} {s t u T : Mem} (hi : 0 ≤ i ∧ i + 6 ≤ L ∧ L ≤ 384) (h1 : sem d 130 [0, xs (i + 1), xs (i + 2)] s = some (r, t)) (h2 : sem d 309 [137, xs (i + 1), xs (i + 2)] t = some (r, u)) (k : Gx (sem d) xs L o_law 1973 [] [0, 0, 137, i] u R T) : Gx (sem d) xs L o_law 1252 [] [0, 0, 137, i] s R T := by
  have w1 := wr_small (i := i + 1) (by omega)
  have w2 := wr_small (i := i + 2) (by omega)
  have w3 := wr_small (i := i + 3) (by omega)
  have w4 := wr_small (i := i + 4) (by omega)
  have w5 := wr_small (i := i + 5) (by omega)
  have c1 : 0 ≤ i + 1 ∧ i + 1 < L := by omega
  have c2 : 0 ≤ i + 2 ∧ i + 2 < L := by omega
  have c3 : 0 ≤ i + 3 ∧ i + 3 < L := by omega
  have c4 : 0 ≤ i + 4 ∧ i + 4 < L := by omega
  have c5 : 0 ≤ i + 5 ∧ i + 5 < L := by omega
  rw [b_law_1252]
  simp only [rn, lget_0, lget_s, w1, w2, w3, w4, w5, c1, c2, c3, c4, c5, and_self, if_true, h1, h2, cal_some, lcmp_self, GR_some]
  exact k
theorem lw_1285 {d : Nat} {xs : Int → Int} {L i R r : Int} {s t u T : Mem} (hi : 0 ≤ i ∧ i + 6 ≤ L ∧ L ≤ 384) (h1 : sem d 131 [0, xs (i + 1)] s = some (r, t)) (h2 : sem d 311 [137, xs (i + 1)] t = some (r, u)) (k : Gx (sem d) xs L o_law 1973 [] [0, 0, 137, i] u R T) : Gx (sem d) xs L o_law 1285 [] [0, 0, 137, i] s R T := by
  have w1 := wr_small (i := i + 1) (by omega)
  have w2 := wr_small (i := i + 2) (by omega)
  have w3 := wr_small (i := i + 3) (by omega)
  have w4 := wr_small (i := i + 4) (by omega)
  have w5 := wr_small (i := i + 5) (by omega)
  have c1 : 0 ≤ i + 1 ∧ i + 1 < L := by omega
  have c2 : 0 ≤ i + 2 ∧ i + 2 < L := by omega
  have c3 : 0 ≤ i + 3 ∧ i + 3 < L := by omega
  have c4 : 0 ≤ i + 4 ∧ i + 4 < L := by omega
  have c5 : 0 ≤ i + 5 ∧ i + 5 < L := by omega
  rw [b_law_1285]
  simp only [rn, lget_0, lget_s, w1, w2, w3, w4, w5, c1, c2, c3, c4, c5, and_self, if_true, h1, h2, cal_some, lcmp_self, GR_some]
  exact k
theorem lw_1308 {d : Nat} {xs : Int → Int} {L i R r : Int} {s t u T : Mem} (hi : 0 ≤ i ∧ i + 6 ≤ L ∧ L ≤ 384) (h1 : sem d 132 [0, xs (i + 1)] s = some (r, t)) (h2 : sem d 312 [137, xs (i + 1)] t = some (r, u)) (k : Gx (sem d) xs L o_law 1973 [] [0, 0, 137, i] u R T) : Gx (sem d) xs L o_law 1308 [] [0, 0, 137, i] s R T := by
  have w1 := wr_small (i := i + 1) (by omega)
  have w2 := wr_small (i := i + 2) (by omega)
  have w3 := wr_small (i := i + 3) (by omega)
  have w4 := wr_small (i := i + 4) (by omega)
  have w5 := wr_small (i := i + 5) (by omega)
  have c1 : 0 ≤ i + 1 ∧ i + 1 < L := by omega
  have c2 : 0 ≤ i + 2 ∧ i + 2 < L := by omega
  have c3 : 0 ≤ i + 3 ∧ i + 3 < L := by omega
  have c4 : 0 ≤ i + 4 ∧ i + 4 < L := by omega
  have c5 : 0 ≤ i + 5 ∧ i + 5 < L := by omega
  rw [b_law_1308]
  simp only [rn, lget_0, lget_s, w1, w2, w3, w4, w5, c1, c2, c3, c4, c5, and_self, if_true, h1, h2, cal_some, lcmp_self, GR_some]
  exact k
theorem lw_1331 {d : Nat} {xs : Int → Int} {L i R r : Int} {s t u T : Mem} (hi : 0 ≤ i ∧ i + 6 ≤ L ∧ L ≤ 384) (h1 : sem d 133 [0, xs (i + 1)] s = some (r, t)) (h2 : sem d 313 [137, xs (i + 1)] t = some (r, u)) (k : Gx (sem d) xs L o_law 1973 [] [0, 0, 137, i] u R T) : Gx (sem d) xs L o_law 1331 [] [0, 0, 137, i] s R T := by
  have w1 := wr_small (i := i + 1) (by omega)
  have w2 := wr_small (i := i + 2) (by omega)
  have w3 := wr_small (i := i + 3) (by omega)
  have w4 := wr_small (i := i + 4) (by omega)
  have w5 := wr_small (i := i + 5) (by omega)
  have c1 : 0 ≤ i + 1 ∧ i + 1 < L := by omega
  have c2 : 0 ≤ i + 2 ∧ i + 2 < L := by omega
  have c3 : 0 ≤ i + 3 ∧ i + 3 < L := by omega
  have c4 : 0 ≤ i + 4 ∧ i + 4 < L := by omega
  have c5 : 0 ≤ i + 5 ∧ i + 5 < L := by omega
  rw [b_law_1331]
  simp only [rn, lget_0, lget_s, w1, w2, w3, w4, w5, c1, c2, c3, c4, c5, and_self, if_true, h1, h2, cal_some, lcmp_self, GR_some]
  exact k
theorem lw_1354 {d : Nat} {xs : Int → Int} {L i R r : Int} {s t u T : Mem} (hi : 0 ≤ i ∧ i + 6 ≤ L ∧ L ≤ 384) (h1 : sem d 134 [0, xs (i + 1)] s = some (r, t)) (h2 : sem d 315 [137, xs (i + 1)] t = some (r, u)) (k : Gx (sem d) xs L o_law 1973 [] [0, 0, 137, i] u R T) : Gx (sem d) xs L o_law 1354 [] [0, 0, 137, i] s R T := by
  have w1 := wr_small (i := i + 1) (by omega)
  have w2 := wr_small (i := i + 2) (by omega)
  have w3 := wr_small (i := i + 3) (by omega)
  have w4 := wr_small (i := i + 4) (by omega)
  have w5 := wr_small (i := i + 5) (by omega)
  have c1 : 0 ≤ i + 1 ∧ i + 1 < L := by omega
  have c2 : 0 ≤ i + 2 ∧ i + 2 < L := by omega
  have c3 : 0 ≤ i + 3 ∧ i + 3 < L := by omega
  have c4 : 0 ≤ i + 4 ∧ i + 4 < L := by omega
  have c5 : 0 ≤ i + 5 ∧ i + 5 < L := by omega
  rw [b_law_1354]
  simp only [rn, lget_0, lget_s, w1, w2, w3, w4, w5, c1, c2, c3, c4, c5, and_self, if_true, h1, h2, cal_some, lcmp_self, GR_some]
  exact k
theorem lw_1377 {d : Nat} {xs : Int → Int} {L i R r : Int} {s t u T : Mem} (hi : 0 ≤ i ∧ i + 6 ≤ L ∧ L ≤ 384) (h1 : sem d 135 [0, xs (i + 1), xs (i + 2)] s = some (r, t)) (h2 : sem d 316 [137, xs (i + 1), xs (i + 2)] t = some (r, u)) (k : Gx (sem d) xs L o_law 1973 [] [0, 0, 137, i] u R T) : Gx (sem d) xs L o_law 1377 [] [0, 0, 137, i] s R T := by
  have w1 := wr_small (i := i + 1) (by omega)
  have w2 := wr_small (i := i + 2) (by omega)
  have w3 := wr_small (i := i + 3) (by omega)
  have w4 := wr_small (i := i + 4) (by omega)
  have w5 := wr_small (i := i + 5) (by omega)
  have c1 : 0 ≤ i + 1 ∧ i + 1 < L := by omega
  have c2 : 0 ≤ i + 2 ∧ i + 2 < L := by omega
  have c3 : 0 ≤ i + 3 ∧ i + 3 < L := by omega
  have c4 : 0 ≤ i + 4 ∧ i + 4 < L := by omega
  have c5 : 0 ≤ i + 5 ∧ i + 5 < L := by omega
  rw [b_law_1377]
  simp only [rn, lget_0, lget_s, w1, w2, w3, w4, w5, c1, c2, c3, c4, c5, and_self, if_true, h1, h2, cal_some, lcmp_self, GR_some]
  exact k
theorem lw_1410 {d : Nat} {xs : Int → Int} {L i R r : Int} {s t u T : Mem} (hi : 0 ≤ i ∧ i + 6 ≤ L ∧ L ≤ 384) (h1 : sem d 136 [0] s = some (r, t)) (h2 : sem d 317 [137] t = some (r, u)) (k : Gx (sem d) xs L o_law 1973 [] [0, 0, 137, i] u R T) : Gx (sem d) xs L o_law 1410 [] [0, 0, 137, i] s R T := by
  have w1 := wr_small (i := i + 1) (by omega)
  have w2 := wr_small (i := i + 2) (by omega)
  have w3 := wr_small (i := i + 3) (by omega)
  have w4 := wr_small (i := i + 4) (by omega)
  have w5 := wr_small (i := i + 5) (by omega)
  have c1 : 0 ≤ i + 1 ∧ i + 1 < L := by omega
  have c2 : 0 ≤ i + 2 ∧ i + 2 < L := by omega
  have c3 : 0 ≤ i + 3 ∧ i + 3 < L := by omega
  have c4 : 0 ≤ i + 4 ∧ i + 4 < L := by omega
  have c5 : 0 ≤ i + 5 ∧ i + 5 < L := by omega
  rw [b_law_1410]
  simp only [rn, lget_0, lget_s, w1, w2, w3, w4, w5, c1, c2, c3, c4, c5, and_self, if_true, h1, h2, cal_some, lcmp_self, GR_some]
  exact k
theorem lw_1423 {d : Nat} {xs : Int → Int} {L i R r : Int} {s t u T : Mem} (hi : 0 ≤ i ∧ i + 6 ≤ L ∧ L ≤ 384) (h1 : sem d 137 [0, xs (i + 1), xs (i + 2), xs (i + 3), xs (i + 4)] s = some (r, t)) (h2 : sem d 319 [137, xs (i + 1), xs (i + 2), xs (i + 3), xs (i + 4)] t = some (r, u)) (k : Gx (sem d) xs L o_law 1973 [] [0, 0, 137, i] u R T) : Gx (sem d) xs L o_law 1423 [] [0, 0, 137, i] s R T := by
  have w1 := wr_small (i := i + 1) (by omega)
  have w2 := wr_small (i := i + 2) (by omega)
  have w3 := wr_small (i := i + 3) (by omega)
  have w4 := wr_small (i := i + 4) (by omega)
  have w5 := wr_small (i := i + 5) (by omega)
  have c1 : 0 ≤ i + 1 ∧ i + 1 < L := by omega
  have c2 : 0 ≤ i + 2 ∧ i + 2 < L := by omega
  have c3 : 0 ≤ i + 3 ∧ i + 3 < L := by omega
  have c4 : 0 ≤ i + 4 ∧ i + 4 < L := by omega
  have c5 : 0 ≤ i + 5 ∧ i + 5 < L := by omega
  rw [b_law_1423]
  simp only [rn, lget_0, lget_s, w1, w2, w3, w4, w5, c1, c2, c3, c4, c5, and_self, if_true, h1, h2, cal_some, lcmp_self, GR_some]
  exact k
theorem lw_1476 {d : Nat} {xs : Int → Int} {L i R r : Int} {s t u T : Mem} (hi : 0 ≤ i ∧ i + 6 ≤ L ∧ L ≤ 384) (h1 : sem d 138 [0, xs (i + 1)] s = some (r, t)) (h2 : sem d 320 [137, xs (i + 1)] t = some (r, u)) (k : Gx (sem d) xs L o_law 1973 [] [0, 0, 137, i] u R T) : Gx (sem d) xs L o_law 1476 [] [0, 0, 137, i] s R T := by
  have w1 := wr_small (i := i + 1) (by omega)
  have w2 := wr_small (i := i + 2) (by omega)
  have w3 := wr_small (i := i + 3) (by omega)
  have w4 := wr_small (i := i + 4) (by omega)
  have w5 := wr_small (i := i + 5) (by omega)
  have c1 : 0 ≤ i + 1 ∧ i + 1 < L := by omega
  have c2 : 0 ≤ i + 2 ∧ i + 2 < L := by omega
  have c3 : 0 ≤ i + 3 ∧ i + 3 < L := by omega
  have c4 : 0 ≤ i + 4 ∧ i + 4 < L := by omega
  have c5 : 0 ≤ i + 5 ∧ i + 5 < L := by omega
  rw [b_law_1476]
  simp only [rn, lget_0, lget_s, w1, w2, w3, w4, w5, c1, c2, c3, c4, c5, and_self, if_true, h1, h2, cal_some, lcmp_self, GR_some]
  exact k
theorem lw_1499 {d : Nat} {xs : Int → Int} {L i R r : Int} {s t u T : Mem} (hi : 0 ≤ i ∧ i + 6 ≤ L ∧ L ≤ 384) (h1 : sem d 152 [0, xs (i + 1), xs (i + 2)] s = some (r, t)) (h2 : sem d 328 [137, xs (i + 1), xs (i + 2)] t = some (r, u)) (k : Gx (sem d) xs L o_law 1973 [] [0, 0, 137, i] u R T) : Gx (sem d) xs L o_law 1499 [] [0, 0, 137, i] s R T := by
  have w1 := wr_small (i := i + 1) (by omega)
  have w2 := wr_small (i := i + 2) (by omega)
  have w3 := wr_small (i := i + 3) (by omega)
  have w4 := wr_small (i := i + 4) (by omega)
  have w5 := wr_small (i := i + 5) (by omega)
  have c1 : 0 ≤ i + 1 ∧ i + 1 < L := by omega
  have c2 : 0 ≤ i + 2 ∧ i + 2 < L := by omega
  have c3 : 0 ≤ i + 3 ∧ i + 3 < L := by omega
  have c4 : 0 ≤ i + 4 ∧ i + 4 < L := by omega
  have c5 : 0 ≤ i + 5 ∧ i + 5 < L := by omega
  rw [b_law_1499]
  simp only [rn, lget_0, lget_s, w1, w2, w3, w4, w5, c1, c2, c3, c4, c5, and_self, if_true, h1, h2, cal_some, lcmp_self, GR_some]
  exact k
theorem lw_1532 {d : Nat} {xs : Int → Int} {L i R r : Int} {s t u T : Mem} (hi : 0 ≤ i ∧ i + 6 ≤ L ∧ L ≤ 384) (h1 : sem d 153 [0, xs (i + 1), xs (i + 2), xs (i + 3), xs (i + 4)] s = some (r, t)) (h2 : sem d 329 [137, xs (i + 1), xs (i + 2), xs (i + 3), xs (i + 4)] t = some (r, u)) (k : Gx (sem d) xs L o_law 1973 [] [0, 0, 137, i] u R T) : Gx (sem d) xs L o_law 1532 [] [0, 0, 137, i] s R T := by
  have w1 := wr_small (i := i + 1) (by omega)
  have w2 := wr_small (i := i + 2) (by omega)
  have w3 := wr_small (i := i + 3) (by omega)
  have w4 := wr_small (i := i + 4) (by omega)
  have w5 := wr_small (i := i + 5) (by omega)
  have c1 : 0 ≤ i + 1 ∧ i + 1 < L := by omega
  have c2 : 0 ≤ i + 2 ∧ i + 2 < L := by omega
  have c3 : 0 ≤ i + 3 ∧ i + 3 < L := by omega
  have c4 : 0 ≤ i + 4 ∧ i + 4 < L := by omega
  have c5 : 0 ≤ i + 5 ∧ i + 5 < L := by omega
  rw [b_law_1532]
  simp only [rn, lget_0, lget_s, w1, w2, w3, w4, w5, c1, c2, c3, c4, c5, and_self, if_true, h1, h2, cal_some, lcmp_self, GR_some]
  exact k
theorem lw_1585 {d : Nat} {xs : Int → Int} {L i R r : Int} {s t u T : Mem} (hi : 0 ≤ i ∧ i + 6 ≤ L ∧ L ≤ 384) (h1 : sem d 154 [0] s = some (r, t)) (h2 : sem d 330 [137] t = some (r, u)) (k : Gx (sem d) xs L o_law 1973 [] [0, 0, 137, i] u R T) : Gx (sem d) xs L o_law 1585 [] [0, 0, 137, i] s R T := by
  have w1 := wr_small (i := i + 1) (by omega)
  have w2 := wr_small (i := i + 2) (by omega)
  have w3 := wr_small (i := i + 3) (by omega)
  have w4 := wr_small (i := i + 4) (by omega)
  have w5 := wr_small (i := i + 5) (by omega)
  have c1 : 0 ≤ i + 1 ∧ i + 1 < L := by omega
  have c2 : 0 ≤ i + 2 ∧ i + 2 < L := by omega
  have c3 : 0 ≤ i + 3 ∧ i + 3 < L := by omega
  have c4 : 0 ≤ i + 4 ∧ i + 4 < L := by omega
  have c5 : 0 ≤ i + 5 ∧ i + 5 < L := by omega
  rw [b_law_1585]
  simp only [rn, lget_0, lget_s, w1, w2, w3, w4, w5, c1, c2, c3, c4, c5, and_self, if_true, h1, h2, cal_some, lcmp_self, GR_some]
  exact k
theorem lw_1598 {d : Nat} {xs : Int → Int} {L i R r : Int} {s t u T : Mem} (hi : 0 ≤ i ∧ i + 6 ≤ L ∧ L ≤ 384) (h1 : sem d 155 [0, xs (i + 1)] s = some (r, t)) (h2 : sem d 331 [137, xs (i + 1)] t = some (r, u)) (k : Gx (sem d) xs L o_law 1973 [] [0, 0, 137, i] u R T) : Gx (sem d) xs L o_law 1598 [] [0, 0, 137, i] s R T := by
  have w1 := wr_small (i := i + 1) (by omega)
  have w2 := wr_small (i := i + 2) (by omega)
  have w3 := wr_small (i := i + 3) (by omega)
  have w4 := wr_small (i := i + 4) (by omega)
  have w5 := wr_small (i := i + 5) (by omega)
  have c1 : 0 ≤ i + 1 ∧ i + 1 < L := by omega
  have c2 : 0 ≤ i + 2 ∧ i + 2 < L := by omega
  have c3 : 0 ≤ i + 3 ∧ i + 3 < L := by omega
  have c4 : 0 ≤ i + 4 ∧ i + 4 < L := by omega
  have c5 : 0 ≤ i + 5 ∧ i + 5 < L := by omega
  rw [b_law_1598]
  simp only [rn, lget_0, lget_s, w1, w2, w3, w4, w5, c1, c2, c3, c4, c5, and_self, if_true, h1, h2, cal_some, lcmp_self, GR_some]
  exact k
theorem lw_1621 {d : Nat} {xs : Int → Int} {L i R r : Int} {s t u T : Mem} (hi : 0 ≤ i ∧ i + 6 ≤ L ∧ L ≤ 384) (h1 : sem d 160 [0, xs (i + 1), xs (i + 2)] s = some (r, t)) (h2 : sem d 335 [137, xs (i + 1), xs (i + 2)] t = some (r, u)) (k : Gx (sem d) xs L o_law 1973 [] [0, 0, 137, i] u R T) : Gx (sem d) xs L o_law 1621 [] [0, 0, 137, i] s R T := by
  have w1 := wr_small (i := i + 1) (by omega)
  have w2 := wr_small (i := i + 2) (by omega)
  have w3 := wr_small (i := i + 3) (by omega)
  have w4 := wr_small (i := i + 4) (by omega)
  have w5 := wr_small (i := i + 5) (by omega)
  have c1 : 0 ≤ i + 1 ∧ i + 1 < L := by omega
  have c2 : 0 ≤ i + 2 ∧ i + 2 < L := by omega
  have c3 : 0 ≤ i + 3 ∧ i + 3 < L := by omega
  have c4 : 0 ≤ i + 4 ∧ i + 4 < L := by omega
  have c5 : 0 ≤ i + 5 ∧ i + 5 < L := by omega
  rw [b_law_1621]
  simp only [rn, lget_0, lget_s, w1, w2, w3, w4, w5, c1, c2, c3, c4, c5, and_self, if_true, h1, h2, cal_some, lcmp_self, GR_some]
  exact k
theorem lw_1654 {d : Nat} {xs : Int → Int} {L i R r : Int} {s t u T : Mem} (hi : 0 ≤ i ∧ i + 6 ≤ L ∧ L ≤ 384) (h1 : sem d 161 [0] s = some (r, t)) (h2 : sem d 336 [137] t = some (r, u)) (k : Gx (sem d) xs L o_law 1973 [] [0, 0, 137, i] u R T) : Gx (sem d) xs L o_law 1654 [] [0, 0, 137, i] s R T := by
  have w1 := wr_small (i := i + 1) (by omega)
  have w2 := wr_small (i := i + 2) (by omega)
  have w3 := wr_small (i := i + 3) (by omega)
  have w4 := wr_small (i := i + 4) (by omega)
  have w5 := wr_small (i := i + 5) (by omega)
  have c1 : 0 ≤ i + 1 ∧ i + 1 < L := by omega
  have c2 : 0 ≤ i + 2 ∧ i + 2 < L := by omega
  have c3 : 0 ≤ i + 3 ∧ i + 3 < L := by omega
  have c4 : 0 ≤ i + 4 ∧ i + 4 < L := by omega
  have c5 : 0 ≤ i + 5 ∧ i + 5 < L := by omega
  rw [b_law_1654]
  simp only [rn, lget_0, lget_s, w1, w2, w3, w4, w5, c1, c2, c3, c4, c5, and_self, if_true, h1, h2, cal_some, lcmp_self, GR_some]
  exact k
theorem lw_1667 {d : Nat} {xs : Int → Int} {L i R r : Int} {s t u T : Mem} (hi : 0 ≤ i ∧ i + 6 ≤ L ∧ L ≤ 384) (h1 : sem d 170 [0, xs (i + 1), xs (i + 2)] s = some (r, t)) (h2 : sem d 338 [137, xs (i + 1), xs (i + 2)] t = some (r, u)) (k : Gx (sem d) xs L o_law 1973 [] [0, 0, 137, i] u R T) : Gx (sem d) xs L o_law 1667 [] [0, 0, 137, i] s R T := by
  have w1 := wr_small (i := i + 1) (by omega)
  have w2 := wr_small (i := i + 2) (by omega)
  have w3 := wr_small (i := i + 3) (by omega)
  have w4 := wr_small (i := i + 4) (by omega)
  have w5 := wr_small (i := i + 5) (by omega)
  have c1 : 0 ≤ i + 1 ∧ i + 1 < L := by omega
  have c2 : 0 ≤ i + 2 ∧ i + 2 < L := by omega
  have c3 : 0 ≤ i + 3 ∧ i + 3 < L := by omega
  have c4 : 0 ≤ i + 4 ∧ i + 4 < L := by omega
  have c5 : 0 ≤ i + 5 ∧ i + 5 < L := by omega
  rw [b_law_1667]
  simp only [rn, lget_0, lget_s, w1, w2, w3, w4, w5, c1, c2, c3, c4, c5, and_self, if_true, h1, h2, cal_some, lcmp_self, GR_some]
  exact k
theorem lw_1700 {d : Nat} {xs : Int → Int} {L i R r : Int} {s t u T : Mem} (hi : 0 ≤ i ∧ i + 6 ≤ L ∧ L ≤ 384) (h1 : sem d 171 [0, xs (i + 1), xs (i + 2), xs (i + 3), xs (i + 4)] s = some (r, t)) (h2 : sem d 339 [137, xs (i + 1), xs (i + 2), xs (i + 3), xs (i + 4)] t = some (r, u)) (k : Gx (sem d) xs L o_law 1973 [] [0, 0, 137, i] u R T) : Gx (sem d) xs L o_law 1700 [] [0, 0, 137, i] s R T := by
  have w1 := wr_small (i := i + 1) (by omega)
  have w2 := wr_small (i := i + 2) (by omega)
  have w3 := wr_small (i := i + 3) (by omega)
  have w4 := wr_small (i := i + 4) (by omega)
  have w5 := wr_small (i := i + 5) (by omega)
  have c1 : 0 ≤ i + 1 ∧ i + 1 < L := by omega
  have c2 : 0 ≤ i + 2 ∧ i + 2 < L := by omega
  have c3 : 0 ≤ i + 3 ∧ i + 3 < L := by omega
  have c4 : 0 ≤ i + 4 ∧ i + 4 < L := by omega
  have c5 : 0 ≤ i + 5 ∧ i + 5 < L := by omega
  rw [b_law_1700]
  simp only [rn, lget_0, lget_s, w1, w2, w3, w4, w5, c1, c2, c3, c4, c5, and_self, if_true, h1, h2, cal_some, lcmp_self, GR_some]
  exact k
theorem lw_1753 {d : Nat} {xs : Int → Int} {L i R r : Int} {s t u T : Mem} (hi : 0 ≤ i ∧ i + 6 ≤ L ∧ L ≤ 384) (h1 : sem d 179 [0, xs (i + 1)] s = some (r, t)) (h2 : sem d 345 [137, xs (i + 1)] t = some (r, u)) (k : Gx (sem d) xs L o_law 1973 [] [0, 0, 137, i] u R T) : Gx (sem d) xs L o_law 1753 [] [0, 0, 137, i] s R T := by
  have w1 := wr_small (i := i + 1) (by omega)
  have w2 := wr_small (i := i + 2) (by omega)
  have w3 := wr_small (i := i + 3) (by omega)
  have w4 := wr_small (i := i + 4) (by omega)
  have w5 := wr_small (i := i + 5) (by omega)
  have c1 : 0 ≤ i + 1 ∧ i + 1 < L := by omega
  have c2 : 0 ≤ i + 2 ∧ i + 2 < L := by omega
  have c3 : 0 ≤ i + 3 ∧ i + 3 < L := by omega
  have c4 : 0 ≤ i + 4 ∧ i + 4 < L := by omega
  have c5 : 0 ≤ i + 5 ∧ i + 5 < L := by omega
  rw [b_law_1753]
  simp only [rn, lget_0, lget_s, w1, w2, w3, w4, w5, c1, c2, c3, c4, c5, and_self, if_true, h1, h2, cal_some, lcmp_self, GR_some]
  exact k
theorem lw_1776 {d : Nat} {xs : Int → Int} {L i R r : Int} {s t u T : Mem} (hi : 0 ≤ i ∧ i + 6 ≤ L ∧ L ≤ 384) (h1 : sem d 182 [0] s = some (r, t)) (h2 : sem d 348 [137] t = some (r, u)) (k : Gx (sem d) xs L o_law 1973 [] [0, 0, 137, i] u R T) : Gx (sem d) xs L o_law 1776 [] [0, 0, 137, i] s R T := by
  have w1 := wr_small (i := i + 1) (by omega)
  have w2 := wr_small (i := i + 2) (by omega)
  have w3 := wr_small (i := i + 3) (by omega)
  have w4 := wr_small (i := i + 4) (by omega)
  have w5 := wr_small (i := i + 5) (by omega)
  have c1 : 0 ≤ i + 1 ∧ i + 1 < L := by omega
  have c2 : 0 ≤ i + 2 ∧ i + 2 < L := by omega
  have c3 : 0 ≤ i + 3 ∧ i + 3 < L := by omega
  have c4 : 0 ≤ i + 4 ∧ i + 4 < L := by omega
  have c5 : 0 ≤ i + 5 ∧ i + 5 < L := by omega
  rw [b_law_1776]
  simp only [rn, lget_0, lget_s, w1, w2, w3, w4, w5, c1, c2, c3, c4, c5, and_self, if_true, h1, h2, cal_some, lcmp_self, GR_some]
  exact k
theorem lw_1789 {d : Nat} {xs : Int → Int} {L i R r : Int} {s t u T : Mem} (hi : 0 ≤ i ∧ i + 6 ≤ L ∧ L ≤ 384) (h1 : sem d 187 [0] s = some (r, t)) (h2 : sem d 351 [137] t = some (r, u)) (k : Gx (sem d) xs L o_law 1973 [] [0, 0, 137, i] u R T) : Gx (sem d) xs L o_law 1789 [] [0, 0, 137, i] s R T := by
  have w1 := wr_small (i := i + 1) (by omega)
  have w2 := wr_small (i := i + 2) (by omega)
  have w3 := wr_small (i := i + 3) (by omega)
  have w4 := wr_small (i := i + 4) (by omega)
  have w5 := wr_small (i := i + 5) (by omega)
  have c1 : 0 ≤ i + 1 ∧ i + 1 < L := by omega
  have c2 : 0 ≤ i + 2 ∧ i + 2 < L := by omega
  have c3 : 0 ≤ i + 3 ∧ i + 3 < L := by omega
  have c4 : 0 ≤ i + 4 ∧ i + 4 < L := by omega
  have c5 : 0 ≤ i + 5 ∧ i + 5 < L := by omega
  rw [b_law_1789]
  simp only [rn, lget_0, lget_s, w1, w2, w3, w4, w5, c1, c2, c3, c4, c5, and_self, if_true, h1, h2, cal_some, lcmp_self, GR_some]
  exact k
theorem lw_1802 {d : Nat} {xs : Int → Int} {L i R r : Int} {s t u T : Mem} (hi : 0 ≤ i ∧ i + 6 ≤ L ∧ L ≤ 384) (h1 : sem d 188 [0, xs (i + 1), xs (i + 2), xs (i + 3)] s = some (r, t)) (h2 : sem d 352 [137, xs (i + 1), xs (i + 2), xs (i + 3)] t = some (r, u)) (k : Gx (sem d) xs L o_law 1973 [] [0, 0, 137, i] u R T) : Gx (sem d) xs L o_law 1802 [] [0, 0, 137, i] s R T := by
  have w1 := wr_small (i := i + 1) (by omega)
  have w2 := wr_small (i := i + 2) (by omega)
  have w3 := wr_small (i := i + 3) (by omega)
  have w4 := wr_small (i := i + 4) (by omega)
  have w5 := wr_small (i := i + 5) (by omega)
  have c1 : 0 ≤ i + 1 ∧ i + 1 < L := by omega
  have c2 : 0 ≤ i + 2 ∧ i + 2 < L := by omega
  have c3 : 0 ≤ i + 3 ∧ i + 3 < L := by omega
  have c4 : 0 ≤ i + 4 ∧ i + 4 < L := by omega
  have c5 : 0 ≤ i + 5 ∧ i + 5 < L := by omega
  rw [b_law_1802]
  simp only [rn, lget_0, lget_s, w1, w2, w3, w4, w5, c1, c2, c3, c4, c5, and_self, if_true, h1, h2, cal_some, lcmp_self, GR_some]
  exact k
theorem lw_1845 {d : Nat} {xs : Int → Int} {L i R r : Int} {s t u T : Mem} (hi : 0 ≤ i ∧ i + 6 ≤ L ∧ L ≤ 384) (h1 : sem d 193 [0, xs (i + 1)] s = some (r, t)) (h2 : sem d 354 [137, xs (i + 1)] t = some (r, u)) (k : Gx (sem d) xs L o_law 1973 [] [0, 0, 137, i] u R T) : Gx (sem d) xs L o_law 1845 [] [0, 0, 137, i] s R T := by
  have w1 := wr_small (i := i + 1) (by omega)
  have w2 := wr_small (i := i + 2) (by omega)
  have w3 := wr_small (i := i + 3) (by omega)
  have w4 := wr_small (i := i + 4) (by omega)
  have w5 := wr_small (i := i + 5) (by omega)
  have c1 : 0 ≤ i + 1 ∧ i + 1 < L := by omega
  have c2 : 0 ≤ i + 2 ∧ i + 2 < L := by omega
  have c3 : 0 ≤ i + 3 ∧ i + 3 < L := by omega
  have c4 : 0 ≤ i + 4 ∧ i + 4 < L := by omega
  have c5 : 0 ≤ i + 5 ∧ i + 5 < L := by omega
  rw [b_law_1845]
  simp only [rn, lget_0, lget_s, w1, w2, w3, w4, w5, c1, c2, c3, c4, c5, and_self, if_true, h1, h2, cal_some, lcmp_self, GR_some]
  exact k
theorem lw_1868 {d : Nat} {xs : Int → Int} {L i R r : Int} {s t u T : Mem} (hi : 0 ≤ i ∧ i + 6 ≤ L ∧ L ≤ 384) (h1 : sem d 195 [0, xs (i + 1)] s = some (r, t)) (h2 : sem d 356 [137, xs (i + 1)] t = some (r, u)) (k : Gx (sem d) xs L o_law 1973 [] [0, 0, 137, i] u R T) : Gx (sem d) xs L o_law 1868 [] [0, 0, 137, i] s R T := by
  have w1 := wr_small (i := i + 1) (by omega)
  have w2 := wr_small (i := i + 2) (by omega)
  have w3 := wr_small (i := i + 3) (by omega)
  have w4 := wr_small (i := i + 4) (by omega)
  have w5 := wr_small (i := i + 5) (by omega)
  have c1 : 0 ≤ i + 1 ∧ i + 1 < L := by omega
  have c2 : 0 ≤ i + 2 ∧ i + 2 < L := by omega
  have c3 : 0 ≤ i + 3 ∧ i + 3 < L := by omega
  have c4 : 0 ≤ i + 4 ∧ i + 4 < L := by omega
  have c5 : 0 ≤ i + 5 ∧ i + 5 < L := by omega
  rw [b_law_1868]
  simp only [rn, lget_0, lget_s, w1, w2, w3, w4, w5, c1, c2, c3, c4, c5, and_self, if_true, h1, h2, cal_some, lcmp_self, GR_some]
  exact k
theorem lw_1891 {d : Nat} {xs : Int → Int} {L i R r : Int} {s t u T : Mem} (hi : 0 ≤ i ∧ i + 6 ≤ L ∧ L ≤ 384) (h1 : sem d 207 [0, xs (i + 1)] s = some (r, t)) (h2 : sem d 366 [137, xs (i + 1)] t = some (r, u)) (k : Gx (sem d) xs L o_law 1973 [] [0, 0, 137, i] u R T) : Gx (sem d) xs L o_law 1891 [] [0, 0, 137, i] s R T := by
  have w1 := wr_small (i := i + 1) (by omega)
  have w2 := wr_small (i := i + 2) (by omega)
  have w3 := wr_small (i := i + 3) (by omega)
  have w4 := wr_small (i := i + 4) (by omega)
  have w5 := wr_small (i := i + 5) (by omega)
  have c1 : 0 ≤ i + 1 ∧ i + 1 < L := by omega
  have c2 : 0 ≤ i + 2 ∧ i + 2 < L := by omega
  have c3 : 0 ≤ i + 3 ∧ i + 3 < L := by omega
  have c4 : 0 ≤ i + 4 ∧ i + 4 < L := by omega
  have c5 : 0 ≤ i + 5 ∧ i + 5 < L := by omega
  rw [b_law_1891]
  simp only [rn, lget_0, lget_s, w1, w2, w3, w4, w5, c1, c2, c3, c4, c5, and_self, if_true, h1, h2, cal_some, lcmp_self, GR_some]
  exact k
theorem lw_1914 {d : Nat} {xs : Int → Int} {L i R r : Int} {s t u T : Mem} (hi : 0 ≤ i ∧ i + 6 ≤ L ∧ L ≤ 384) (h1 : sem d 208 [0, xs (i + 1), xs (i + 2)] s = some (r, t)) (h2 : sem d 367 [137, xs (i + 1), xs (i + 2)] t = some (r, u)) (k : Gx (sem d) xs L o_law 1973 [] [0, 0, 137, i] u R T) : Gx (sem d) xs L o_law 1914 [] [0, 0, 137, i] s R T := by
  have w1 := wr_small (i := i + 1) (by omega)
  have w2 := wr_small (i := i + 2) (by omega)
  have w3 := wr_small (i := i + 3) (by omega)
  have w4 := wr_small (i := i + 4) (by omega)
  have w5 := wr_small (i := i + 5) (by omega)
  have c1 : 0 ≤ i + 1 ∧ i + 1 < L := by omega
  have c2 : 0 ≤ i + 2 ∧ i + 2 < L := by omega
  have c3 : 0 ≤ i + 3 ∧ i + 3 < L := by omega
  have c4 : 0 ≤ i + 4 ∧ i + 4 < L := by omega
  have c5 : 0 ≤ i + 5 ∧ i + 5 < L := by omega
  rw [b_law_1914]
  simp only [rn, lget_0, lget_s, w1, w2, w3, w4, w5, c1, c2, c3, c4, c5, and_self, if_true, h1, h2, cal_some, lcmp_self, GR_some]
  exact k
theorem lw_1947 {d : Nat} {xs : Int → Int} {L i R r : Int} {s t u T : Mem} (hi : 0 ≤ i ∧ i + 6 ≤ L ∧ L ≤ 384) (h1 : sem d 209 [0] s = some (r, t)) (h2 : sem d 368 [137] t = some (r, u)) (k : Gx (sem d) xs L o_law 1973 [] [0, 0, 137, i] u R T) : Gx (sem d) xs L o_law 1947 [] [0, 0, 137, i] s R T := by
  have w1 := wr_small (i := i + 1) (by omega)
  have w2 := wr_small (i := i + 2) (by omega)
  have w3 := wr_small (i := i + 3) (by omega)
  have w4 := wr_small (i := i + 4) (by omega)
  have w5 := wr_small (i := i + 5) (by omega)
  have c1 : 0 ≤ i + 1 ∧ i + 1 < L := by omega
  have c2 : 0 ≤ i + 2 ∧ i + 2 < L := by omega
  have c3 : 0 ≤ i + 3 ∧ i + 3 < L := by omega
  have c4 : 0 ≤ i + 4 ∧ i + 4 < L := by omega
  have c5 : 0 ≤ i + 5 ∧ i + 5 < L := by omega
  rw [b_law_1947]
  simp only [rn, lget_0, lget_s, w1, w2, w3, w4, w5, c1, c2, c3, c4, c5, and_self, if_true, h1, h2, cal_some, lcmp_self, GR_some]
  exact k
theorem lw_1960 {d : Nat} {xs : Int → Int} {L i R r : Int} {s t u T : Mem} (hi : 0 ≤ i ∧ i + 6 ≤ L ∧ L ≤ 384) (h1 : sem d 211 [0] s = some (r, t)) (h2 : sem d 370 [137] t = some (r, u)) (k : Gx (sem d) xs L o_law 1973 [] [0, 0, 137, i] u R T) : Gx (sem d) xs L o_law 1960 [] [0, 0, 137, i] s R T := by
  have w1 := wr_small (i := i + 1) (by omega)
  have w2 := wr_small (i := i + 2) (by omega)
  have w3 := wr_small (i := i + 3) (by omega)
  have w4 := wr_small (i := i + 4) (by omega)
  have w5 := wr_small (i := i + 5) (by omega)
  have c1 : 0 ≤ i + 1 ∧ i + 1 < L := by omega
  have c2 : 0 ≤ i + 2 ∧ i + 2 < L := by omega
  have c3 : 0 ≤ i + 3 ∧ i + 3 < L := by omega
  have c4 : 0 ≤ i + 4 ∧ i + 4 < L := by omega
  have c5 : 0 ≤ i + 5 ∧ i + 5 < L := by omega
  rw [b_law_1960]
  simp only [rn, lget_0, lget_s, w1, w2, w3, w4, w5, c1, c2, c3, c4, c5, and_self, if_true, h1, h2, cal_some, lcmp_self, GR_some]
  exact k
/-- all calls answer alike -/
def AllAlk (d : Nat) (Inv : Mem → Prop) : Prop :=
  (∀ z : Int, Alk d Inv 0 213 []) ∧
  (∀ z : Int, Alk d Inv 1 214 []) ∧
  (∀ z : Int, Alk d Inv 2 215 []) ∧
  (∀ a1  a2  a3 : Int, in32 a1 → in32 a2 → in32 a3 → Alk d Inv 3 216 [a1, a2, a3]) ∧
  (∀ a1  a2  a3 : Int, in32 a1 → in32 a2 → in64 a3 → Alk d Inv 8 219 [a1, a2, a3]) ∧
  (∀ a1  a2 : Int, in32 a1 → in32 a2 → Alk d Inv 13 222 [a1, a2]) ∧
  (∀ a1  a2  a3  a4  a5 : Int, in32 a1 → in32 a2 → in32 a3 → in32 a4 → in32 a5 → Alk d Inv 15 223 [a1, a2, a3, a4, a5]) ∧
  (∀ a1  a2  a3  a4  a5 : Int, in32 a1 → in32 a2 → in32 a3 → in32 a4 → in32 a5 → Alk d Inv 18 224 [a1, a2, a3, a4, a5]) ∧
  (∀ a1 : Int, in32 a1 → Alk d Inv 20 227 [a1]) ∧
  (∀ a1 : Int, in32 a1 → Alk d Inv 71 262 [a1]) ∧
  (∀ a1 : Int, in32 a1 → Alk d Inv 85 226 [a1]) ∧
  (∀ a1 : Int, in32 a1 → Alk d Inv 86 268 [a1]) ∧
  (∀ a1  a2 : Int, in32 a1 → in32 a2 → Alk d Inv 88 270 [a1, a2]) ∧
  (∀ a1 : Int, in32 a1 → Alk d Inv 90 271 [a1]) ∧
  (∀ a1  a2 : Int, in32 a1 → in32 a2 → Alk d Inv 92 273 [a1, a2]) ∧
  (∀ a1  a2  a3 : Int, in32 a1 → in32 a2 → in32 a3 → Alk d Inv 94 275 [a1, a2, a3]) ∧
  (∀ a1  a2 : Int, in32 a1 → in32 a2 → Alk d Inv 96 278 [a1, a2]) ∧
  (∀ a1  a2  a3 : Int, in32 a1 → in32 a2 → in32 a3 → Alk d Inv 101 284 [a1, a2, a3]) ∧
  (∀ a1 : Int, in32 a1 → Alk d Inv 102 288 [a1]) ∧
  (∀ a1  a2 : Int, in32 a1 → in32 a2 → Alk d Inv 104 290 [a1, a2]) ∧
  (∀ a1  a2 : Int, in32 a1 → in32 a2 → Alk d Inv 106 292 [a1, a2]) ∧
  (∀ a1  a2  a3 : Int, in32 a1 → in32 a2 → in32 a3 → Alk d Inv 107 293 [a1, a2, a3]) ∧
  (∀ a1  a2  a3  a4 : Int, in32 a1 → in32 a2 → in32 a3 → in32 a4 → Alk d Inv 108 294 [a1, a2, a3, a4]) ∧
  (∀ a1 : Int, in32 a1 → Alk d Inv 110 295 [a1]) ∧
  (∀ z : Int, Alk d Inv 111 296 []) ∧
  (∀ a1  a2  a3 : Int, in32 a1 → in32 a2 → in32 a3 → Alk d Inv 123 306 [a1, a2, a3]) ∧
  (∀ a1  a2 : Int, in32 a1 → in32 a2 → Alk d Inv 125 280 [a1, a2]) ∧
  (∀ a1  a2 : Int, in32 a1 → in32 a2 → Alk d Inv 126 283 [a1, a2]) ∧
  (∀ a1  a2 : Int, in32 a1 → in32 a2 → Alk d Inv 127 308 [a1, a2]) ∧
  (∀ a1  a2 : Int, in32 a1 → in32 a2 → Alk d Inv 130 309 [a1, a2]) ∧
  (∀ a1 : Int, in32 a1 → Alk d Inv 131 311 [a1]) ∧
  (∀ a1 : Int, in32 a1 → Alk d Inv 132 312 [a1]) ∧
  (∀ a1 : Int, in32 a1 → Alk d Inv 133 313 [a1]) ∧
  (∀ a1 : Int, in32 a1 → Alk d Inv 134 315 [a1]) ∧
  (∀ a1  a2 : Int, in32 a1 → in32 a2 → Alk d Inv 135 316 [a1, a2]) ∧
  (∀ z : Int, Alk d Inv 136 317 []) ∧
  (∀ a1  a2  a3  a4 : Int, in32 a1 → in32 a2 → in32 a3 → in32 a4 → Alk d Inv 137 319 [a1, a2, a3, a4]) ∧
  (∀ a1 : Int, in32 a1 → Alk d Inv 138 320 [a1]) ∧
  (∀ a1  a2 : Int, in32 a1 → in32 a2 → Alk d Inv 152 328 [a1, a2]) ∧
  (∀ a1  a2  a3  a4 : Int, in32 a1 → in32 a2 → in32 a3 → in32 a4 → Alk d Inv 153 329 [a1, a2, a3, a4]) ∧
  (∀ z : Int, Alk d Inv 154 330 []) ∧
  (∀ a1 : Int, in32 a1 → Alk d Inv 155 331 [a1]) ∧
  (∀ a1  a2 : Int, in32 a1 → in32 a2 → Alk d Inv 160 335 [a1, a2]) ∧
  (∀ z : Int, Alk d Inv 161 336 []) ∧
  (∀ a1  a2 : Int, in32 a1 → in32 a2 → Alk d Inv 170 338 [a1, a2]) ∧
  (∀ a1  a2  a3  a4 : Int, in32 a1 → in32 a2 → in32 a3 → in32 a4 → Alk d Inv 171 339 [a1, a2, a3, a4]) ∧
  (∀ a1 : Int, in32 a1 → Alk d Inv 179 345 [a1]) ∧
  (∀ z : Int, Alk d Inv 182 348 []) ∧
  (∀ z : Int, Alk d Inv 187 351 []) ∧
  (∀ a1  a2  a3 : Int, in32 a1 → in32 a2 → in32 a3 → Alk d Inv 188 352 [a1, a2, a3]) ∧
  (∀ a1 : Int, in32 a1 → Alk d Inv 193 354 [a1]) ∧
  (∀ a1 : Int, in32 a1 → Alk d Inv 195 356 [a1]) ∧
  (∀ a1 : Int, in32 a1 → Alk d Inv 207 366 [a1]) ∧
  (∀ a1  a2 : Int, in32 a1 → in32 a2 → Alk d Inv 208 367 [a1, a2]) ∧
  (∀ z : Int, Alk d Inv 209 368 []) ∧
  (∀ z : Int, Alk d Inv 211 370 [])
theorem law_loop {d : Nat} {Inv : Mem → Prop} {xs : Int → Int} {L : Int} (hx : ∀ j, in32 (xs j)) (hL : 0 ≤ L ∧ L ≤ 384) (hA : AllAlk d Inv) : ∀ (n : Nat) (i : Int) (s : Mem), Inv s → 0 ≤ i → L - i ≤ n → i ≤ 390 → ∃ t, Gx (sem d) xs L o_law 18 [] [0, 0, 137, i] s 1 t := by
  intro n
  induction n with
  | zero =>
    intro i s hI hi hn hi2
    refine ⟨s, ?_⟩
    rw [b_law_18]
    have e1 : wr (L - 6) = L - 6 := wr_id (by unfold in32; omega)
    have e2 : L - 6 < i := by omega
    simp only [rn, lget_0, lget_s, e1, e2, if_true, GR_some]
    rw [b_law_1979]
    simp only [rn, GR_ite, GR_some, GR_none, G_ret, List.headD]
    simp
  | succ n ih =>
    intro i s hI hi hn hi2
    have e1 : wr (L - 6) = L - 6 := wr_id (by unfold in32; omega)
    by_cases e2 : L - 6 < i
    · refine ⟨s, ?_⟩
      rw [b_law_18]
      simp only [rn, lget_0, lget_s, e1, e2, if_true, GR_some]
      rw [b_law_1979]
      simp only [rn, GR_ite, GR_some, GR_none, G_ret, List.headD]
      simp
    · have hi6 : 0 ≤ i ∧ i + 6 ≤ L ∧ L ≤ 384 := by omega
      have next : ∀ u, Inv u → ∃ t, Gx (sem d) xs L o_law 1973 [] [0, 0, 137, i] u 1 t := by
        intro u hu
        obtain ⟨t, ht⟩ := ih (i + 6) u hu (by omega) (by omega) (by omega)
        refine ⟨t, ?_⟩
        rw [b_law_1973]
        have e3 : wr (i + 6) = i + 6 := wr_id (by unfold in32; omega)
        simp only [rn, lget_0, lget_s, lset_0, lset_s, e3, GR_some]
        exact ht
      have c0 : 0 ≤ i ∧ i < L := by omega
      have head : ∀ (R : Int) (T : Mem), Gx (sem d) xs L o_law (swv [(0, 272), (1, 285), (2, 299), (3, 313), (4, 356), (5, 429), (6, 463), (7, 526), (8, 589), (9, 612), (10, 635), (11, 658), (12, 681), (13, 714), (14, 737), (15, 770), (16, 813), (17, 846), (18, 889), (19, 912), (20, 945), (21, 978), (22, 1021), (23, 1074), (24, 1097), (25, 1110), (26, 1153), (27, 1186), (28, 1219), (29, 1252), (30, 1285), (31, 1308), (32, 1331), (33, 1354), (34, 1377), (35, 1410), (36, 1423), (37, 1476), (38, 1499), (39, 1532), (40, 1585), (41, 1598), (42, 1621), (43, 1654), (44, 1667), (45, 1700), (46, 1753), (47, 1776), (48, 1789), (49, 1802), (50, 1845), (51, 1868), (52, 1891), (53, 1914), (54, 1947), (55, 1960)] 1973 (iand_ (xs i) 63)) [] [0, 0, 137, i] s R T → Gx (sem d) xs L o_law 18 [] [0, 0, 137, i] s R T := by
        intro R T h
        rw [b_law_18]
        simp only [rn, lget_0, lget_s, e1, e2, c0, and_self, if_true, if_false, swk_swv, GR_some]
        exact h
      suffices main : ∀ z : Int, ∃ t, Gx (sem d) xs L o_law (swv [(0, 272), (1, 285), (2, 299), (3, 313), (4, 356), (5, 429), (6, 463), (7, 526), (8, 589), (9, 612), (10, 635), (11, 658), (12, 681), (13, 714), (14, 737), (15, 770), (16, 813), (17, 846), (18, 889), (19, 912), (20, 945), (21, 978), (22, 1021), (23, 1074), (24, 1097), (25, 1110), (26, 1153), (27, 1186), (28, 1219), (29, 1252), (30, 1285), (31, 1308), (32, 1331), (33, 1354), (34, 1377), (35, 1410), (36, 1423), (37, 1476), (38, 1499), (39, 1532), (40, 1585), (41, 1598), (42, 1621), (43, 1654), (44, 1667), (45, 1700), (46, 1753), (47, 1776), (48, 1789), (49, 1802), (50, 1845), (51, 1868), (52, 1891), (53, 1914), (54, 1947), (55, 1960)] 1973 z) [] [0, 0, 137, i] s 1 t by
        obtain ⟨t, ht⟩ := main (iand_ (xs i) 63)
        exact ⟨t, head _ _ ht⟩
      intro z
      obtain ⟨h0, h1, h2, h3, h4, h5, h6, h7, h8, h9, h10, h11, h12, h13, h14, h15, h16, h17, h18, h19, h20, h21, h22, h23, h24, h25, h26, h27, h28, h29, h30, h31, h32, h33, h34, h35, h36, h37, h38, h39, h40, h41, h42, h43, h44, h45, h46, h47, h48, h49, h50, h51, h52, h53, h54, h55⟩ := hA
      by_cases g0 : z = 0
      · subst g0
        obtain ⟨r, t, u, r1, r2, r3⟩ := h0 0  s hI
        obtain ⟨T, hT⟩ := next u r3
        exact ⟨T, lw_272 hi6 r1 r2 hT⟩
      by_cases g1 : z = 1
      · subst g1
        obtain ⟨r, t, u, r1, r2, r3⟩ := h1 0  s hI
        obtain ⟨T, hT⟩ := next u r3
        exact ⟨T, lw_285 hi6 r1 r2 hT⟩
      by_cases g2 : z = 2
      · subst g2
        obtain ⟨r, t, u, r1, r2, r3⟩ := h2 0  s hI
        obtain ⟨T, hT⟩ := next u r3
        exact ⟨T, lw_299 hi6 r1 r2 hT⟩
      by_cases g3 : z = 3
      · subst g3
        obtain ⟨r, t, u, r1, r2, r3⟩ := h3 _ _ _ (hx _) (hx _) (hx _) s hI
        obtain ⟨T, hT⟩ := next u r3
        exact ⟨T, lw_313 hi6 r1 r2 hT⟩
      by_cases g4 : z = 4
      · subst g4
        obtain ⟨r, t, u, r1, r2, r3⟩ := h4 _ _ _ (hx _) (hx _) (lor_in _ _) s hI
        obtain ⟨T, hT⟩ := next u r3
        exact ⟨T, lw_356 hi6 r1 r2 hT⟩
      by_cases g5 : z = 5
      · subst g5
        obtain ⟨r, t, u, r1, r2, r3⟩ := h5 _ _ (hx _) (hx _) s hI
        obtain ⟨T, hT⟩ := next u r3
        exact ⟨T, lw_429 hi6 r1 r2 hT⟩
      by_cases g6 : z = 6
      · subst g6
        obtain ⟨r, t, u, r1, r2, r3⟩ := h6 _ _ _ _ _ (hx _) (hx _) (hx _) (hx _) (hx _) s hI
        obtain ⟨T, hT⟩ := next u r3
        exact ⟨T, lw_463 hi6 r1 r2 hT⟩
      by_cases g7 : z = 7
      · subst g7
        obtain ⟨r, t, u, r1, r2, r3⟩ := h7 _ _ _ _ _ (hx _) (hx _) (hx _) (hx _) (hx _) s hI
        obtain ⟨T, hT⟩ := next u r3
        exact ⟨T, lw_526 hi6 r1 r2 hT⟩
      by_cases g8 : z = 8
      · subst g8
        obtain ⟨r, t, u, r1, r2, r3⟩ := h8 _ (hx _) s hI
        obtain ⟨T, hT⟩ := next u r3
        exact ⟨T, lw_589 hi6 r1 r2 hT⟩
      by_cases g9 : z = 9
      · subst g9
        obtain ⟨r, t, u, r1, r2, r3⟩ := h9 _ (hx _) s hI
        obtain ⟨T, hT⟩ := next u r3
        exact ⟨T, lw_612 hi6 r1 r2 hT⟩
      by_cases g10 : z = 10
      · subst g10
        obtain ⟨r, t, u, r1, r2, r3⟩ := h10 _ (hx _) s hI
        obtain ⟨T, hT⟩ := next u r3
        exact ⟨T, lw_635 hi6 r1 r2 hT⟩
      by_cases g11 : z = 11
      · subst g11
        obtain ⟨r, t, u, r1, r2, r3⟩ := h11 _ (hx _) s hI
        obtain ⟨T, hT⟩ := next u r3
        exact ⟨T, lw_658 hi6 r1 r2 hT⟩
      by_cases g12 : z = 12
      · subst g12
        obtain ⟨r, t, u, r1, r2, r3⟩ := h12 _ _ (hx _) (hx _) s hI
        obtain ⟨T, hT⟩ := next u r3
        exact ⟨T, lw_681 hi6 r1 r2 hT⟩
      by_cases g13 : z = 13
      · subst g13
        obtain ⟨r, t, u, r1, r2, r3⟩ := h13 _ (hx _) s hI
        obtain ⟨T, hT⟩ := next u r3
        exact ⟨T, lw_714 hi6 r1 r2 hT⟩
      by_cases g14 : z = 14
      · subst g14
        obtain ⟨r, t, u, r1, r2, r3⟩ := h14 _ _ (hx _) (hx _) s hI
        obtain ⟨T, hT⟩ := next u r3
        exact ⟨T, lw_737 hi6 r1 r2 hT⟩
      by_cases g15 : z = 15
      · subst g15
        obtain ⟨r, t, u, r1, r2, r3⟩ := h15 _ _ _ (hx _) (hx _) (hx _) s hI
        obtain ⟨T, hT⟩ := next u r3
        exact ⟨T, lw_770 hi6 r1 r2 hT⟩
      by_cases g16 : z = 16
      · subst g16
        obtain ⟨r, t, u, r1, r2, r3⟩ := h16 _ _ (hx _) (hx _) s hI
        obtain ⟨T, hT⟩ := next u r3
        exact ⟨T, lw_813 hi6 r1 r2 hT⟩
      by_cases g17 : z = 17
      · subst g17
        obtain ⟨r, t, u, r1, r2, r3⟩ := h17 _ _ _ (hx _) (hx _) (hx _) s hI
        obtain ⟨T, hT⟩ := next u r3
        exact ⟨T, lw_846 hi6 r1 r2 hT⟩
      by_cases g18 : z = 18
      · subst g18
        obtain ⟨r, t, u, r1, r2, r3⟩ := h18 _ (hx _) s hI
        obtain ⟨T, hT⟩ := next u r3
        exact ⟨T, lw_889 hi6 r1 r2 hT⟩
      by_cases g19 : z = 19
      · subst g19
        obtain ⟨r, t, u, r1, r2, r3⟩ := h19 _ _ (hx _) (hx _) s hI
        obtain ⟨T, hT⟩ := next u r3
        exact ⟨T, lw_912 hi6 r1 r2 hT⟩
      by_cases g20 : z = 20
      · subst g20
        obtain ⟨r, t, u, r1, r2, r3⟩ := h20 _ _ (hx _) (hx _) s hI
        obtain ⟨T, hT⟩ := next u r3
        exact ⟨T, lw_945 hi6 r1 r2 hT⟩
      by_cases g21 : z = 21
      · subst g21
        obtain ⟨r, t, u, r1, r2, r3⟩ := h21 _ _ _ (hx _) (hx _) (hx _) s hI
        obtain ⟨T, hT⟩ := next u r3
        exact ⟨T, lw_978 hi6 r1 r2 hT⟩
      by_cases g22 : z = 22
      · subst g22
        obtain ⟨r, t, u, r1, r2, r3⟩ := h22 _ _ _ _ (hx _) (hx _) (hx _) (hx _) s hI
        obtain ⟨T, hT⟩ := next u r3
        exact ⟨T, lw_1021 hi6 r1 r2 hT⟩
      by_cases g23 : z = 23
      · subst g23
        obtain ⟨r, t, u, r1, r2, r3⟩ := h23 _ (hx _) s hI
        obtain ⟨T, hT⟩ := next u r3
        exact ⟨T, lw_1074 hi6 r1 r2 hT⟩
      by_cases g24 : z = 24
      · subst g24
        obtain ⟨r, t, u, r1, r2, r3⟩ := h24 0  s hI
        obtain ⟨T, hT⟩ := next u r3
        exact ⟨T, lw_1097 hi6 r1 r2 hT⟩
      by_cases g25 : z = 25
      · subst g25
        obtain ⟨r, t, u, r1, r2, r3⟩ := h25 _ _ _ (hx _) (hx _) (hx _) s hI
        obtain ⟨T, hT⟩ := next u r3
        exact ⟨T, lw_1110 hi6 r1 r2 hT⟩
      by_cases g26 : z = 26
      · subst g26
        obtain ⟨r, t, u, r1, r2, r3⟩ := h26 _ _ (hx _) (hx _) s hI
        obtain ⟨T, hT⟩ := next u r3
        exact ⟨T, lw_1153 hi6 r1 r2 hT⟩
      by_cases g27 : z = 27
      · subst g27
        obtain ⟨r, t, u, r1, r2, r3⟩ := h27 _ _ (hx _) (hx _) s hI
        obtain ⟨T, hT⟩ := next u r3
        exact ⟨T, lw_1186 hi6 r1 r2 hT⟩
      by_cases g28 : z = 28
      · subst g28
        obtain ⟨r, t, u, r1, r2, r3⟩ := h28 _ _ (hx _) (hx _) s hI
        obtain ⟨T, hT⟩ := next u r3
        exact ⟨T, lw_1219 hi6 r1 r2 hT⟩
      by_cases g29 : z = 29
      · subst g29
        obtain ⟨r, t, u, r1, r2, r3⟩ := h29 _ _ (hx _) (hx _) s hI
        obtain ⟨T, hT⟩ := next u r3
        exact ⟨T, lw_1252 hi6 r1 r2 hT⟩
      by_cases g30 : z = 30
      · subst g30
        obtain ⟨r, t, u, r1, r2, r3⟩ := h30 _ (hx _) s hI
        obtain ⟨T, hT⟩ := next u r3
        exact ⟨T, lw_1285 hi6 r1 r2 hT⟩
      by_cases g31 : z = 31
      · subst g31
        obtain ⟨r, t, u, r1, r2, r3⟩ := h31 _ (hx _) s hI
        obtain ⟨T, hT⟩ := next u r3
        exact ⟨T, lw_1308 hi6 r1 r2 hT⟩
      by_cases g32 : z = 32
      · subst g32
        obtain ⟨r, t, u, r1, r2, r3⟩ := h32 _ (hx _) s hI
        obtain ⟨T, hT⟩ := next u r3
        exact ⟨T, lw_1331 hi6 r1 r2 hT⟩
      by_cases g33 : z = 33
      · subst g33
        obtain ⟨r, t, u, r1, r2, r3⟩ := h33 _ (hx _) s hI
        obtain ⟨T, hT⟩ := next u r3
        exact ⟨T, lw_1354 hi6 r1 r2 hT⟩
      by_cases g34 : z = 34
      · subst g34
        obtain ⟨r, t, u, r1, r2, r3⟩ := h34 _ _ (hx _) (hx _) s hI
        obtain ⟨T, hT⟩ := next u r3
        exact ⟨T, lw_1377 hi6 r1 r2 hT⟩
      by_cases g35 : z = 35
      · subst g35
        obtain ⟨r, t, u, r1, r2, r3⟩ := h35 0  s hI
        obtain ⟨T, hT⟩ := next u r3
        exact ⟨T, lw_1410 hi6 r1 r2 hT⟩
      by_cases g36 : z = 36
      · subst g36
        obtain ⟨r, t, u, r1, r2, r3⟩ := h36 _ _ _ _ (hx _) (hx _) (hx _) (hx _) s hI
        obtain ⟨T, hT⟩ := next u r3
        exact ⟨T, lw_1423 hi6 r1 r2 hT⟩
      by_cases g37 : z = 37
      · subst g37
        obtain ⟨r, t, u, r1, r2, r3⟩ := h37 _ (hx _) s hI
        obtain ⟨T, hT⟩ := next u r3
        exact ⟨T, lw_1476 hi6 r1 r2 hT⟩
      by_cases g38 : z = 38
      · subst g38
        obtain ⟨r, t, u, r1, r2, r3⟩ := h38 _ _ (hx _) (hx _) s hI
        obtain ⟨T, hT⟩ := next u r3
        exact ⟨T, lw_1499 hi6 r1 r2 hT⟩
      by_cases g39 : z = 39
      · subst g39
        obtain ⟨r, t, u, r1, r2, r3⟩ := h39 _ _ _ _ (hx _) (hx _) (hx _) (hx _) s hI
        obtain ⟨T, hT⟩ := next u r3
        exact ⟨T, lw_1532 hi6 r1 r2 hT⟩
      by_cases g40 : z = 40
      · subst g40
        obtain ⟨r, t, u, r1, r2, r3⟩ := h40 0  s hI
        obtain ⟨T, hT⟩ := next u r3
        exact ⟨T, lw_1585 hi6 r1 r2 hT⟩
      by_cases g41 : z = 41
      · subst g41
        obtain ⟨r, t, u, r1, r2, r3⟩ := h41 _ (hx _) s hI
        obtain ⟨T, hT⟩ := next u r3
        exact ⟨T, lw_1598 hi6 r1 r2 hT⟩
      by_cases g42 : z = 42
      · subst g42
        obtain ⟨r, t, u, r1, r2, r3⟩ := h42 _ _ (hx _) (hx _) s hI
        obtain ⟨T, hT⟩ := next u r3
        exact ⟨T, lw_1621 hi6 r1 r2 hT⟩
      by_cases g43 : z = 43
      · subst g43
        obtain ⟨r, t, u, r1, r2, r3⟩ := h43 0  s hI
        obtain ⟨T, hT⟩ := next u r3
        exact ⟨T, lw_1654 hi6 r1 r2 hT⟩
      by_cases g44 : z = 44
      · subst g44
        obtain ⟨r, t, u, r1, r2, r3⟩ := h44 _ _ (hx _) (hx _) s hI
        obtain ⟨T, hT⟩ := next u r3
        exact ⟨T, lw_1667 hi6 r1 r2 hT⟩
      by_cases g45 : z = 45
      · subst g45
        obtain ⟨r, t, u, r1, r2, r3⟩ := h45 _ _ _ _ (hx _) (hx _) (hx _) (hx _) s hI
        obtain ⟨T, hT⟩ := next u r3
        exact ⟨T, lw_1700 hi6 r1 r2 hT⟩
      by_cases g46 : z = 46
      · subst g46
        obtain ⟨r, t, u, r1, r2, r3⟩ := h46 _ (hx _) s hI
        obtain ⟨T, hT⟩ := next u r3
        exact ⟨T, lw_1753 hi6 r1 r2 hT⟩
      by_cases g47 : z = 47
      · subst g47
        obtain ⟨r, t, u, r1, r2, r3⟩ := h47 0  s hI
        obtain ⟨T, hT⟩ := next u r3
        exact ⟨T, lw_1776 hi6 r1 r2 hT⟩
      by_cases g48 : z = 48
      · subst g48
        obtain ⟨r, t, u, r1, r2, r3⟩ := h48 0  s hI
        obtain ⟨T, hT⟩ := next u r3
        exact ⟨T, lw_1789 hi6 r1 r2 hT⟩
      by_cases g49 : z = 49
      · subst g49
        obtain ⟨r, t, u, r1, r2, r3⟩ := h49 _ _ _ (hx _) (hx _) (hx _) s hI
        obtain ⟨T, hT⟩ := next u r3
        exact ⟨T, lw_1802 hi6 r1 r2 hT⟩
      by_cases g50 : z = 50
      · subst g50
        obtain ⟨r, t, u, r1, r2, r3⟩ := h50 _ (hx _) s hI
        obtain ⟨T, hT⟩ := next u r3
        exact ⟨T, lw_1845 hi6 r1 r2 hT⟩
      by_cases g51 : z = 51
      · subst g51
        obtain ⟨r, t, u, r1, r2, r3⟩ := h51 _ (hx _) s hI
        obtain ⟨T, hT⟩ := next u r3
        exact ⟨T, lw_1868 hi6 r1 r2 hT⟩
      by_cases g52 : z = 52
      · subst g52
        obtain ⟨r, t, u, r1, r2, r3⟩ := h52 _ (hx _) s hI
        obtain ⟨T, hT⟩ := next u r3
        exact ⟨T, lw_1891 hi6 r1 r2 hT⟩
      by_cases g53 : z = 53
      · subst g53
        obtain ⟨r, t, u, r1, r2, r3⟩ := h53 _ _ (hx _) (hx _) s hI
        obtain ⟨T, hT⟩ := next u r3
        exact ⟨T, lw_1914 hi6 r1 r2 hT⟩
      by_cases g54 : z = 54
      · subst g54
        obtain ⟨r, t, u, r1, r2, r3⟩ := h54 0  s hI
        obtain ⟨T, hT⟩ := next u r3
        exact ⟨T, lw_1947 hi6 r1 r2 hT⟩
      by_cases g55 : z = 55
      · subst g55
        obtain ⟨r, t, u, r1, r2, r3⟩ := h55 0  s hI
        obtain ⟨T, hT⟩ := next u r3
        exact ⟨T, lw_1960 hi6 r1 r2 hT⟩
      have : swv [(0, 272), (1, 285), (2, 299), (3, 313), (4, 356), (5, 429), (6, 463), (7, 526), (8, 589), (9, 612), (10, 635), (11, 658), (12, 681), (13, 714), (14, 737), (15, 770), (16, 813), (17, 846), (18, 889), (19, 912), (20, 945), (21, 978), (22, 1021), (23, 1074), (24, 1097), (25, 1110), (26, 1153), (27, 1186), (28, 1219), (29, 1252), (30, 1285), (31, 1308), (32, 1331), (33, 1354), (34, 1377), (35, 1410), (36, 1423), (37, 1476), (38, 1499), (39, 1532), (40, 1585), (41, 1598), (42, 1621), (43, 1654), (44, 1667), (45, 1700), (46, 1753), (47, 1776), (48, 1789), (49, 1802), (50, 1845), (51, 1868), (52, 1891), (53, 1914), (54, 1947), (55, 1960)] 1973 z = 1973 := by
        unfold swv swv swv swv swv swv swv swv swv swv swv swv swv swv swv swv swv swv swv swv swv swv swv swv swv swv swv swv swv swv swv swv swv swv swv swv swv swv swv swv swv swv swv swv swv swv swv swv swv swv swv swv swv swv swv swv swv
        simp only [g0, g1, g2, g3, g4, g5, g6, g7, g8, g9, g10, g11, g12, g13, g14, g15, g16, g17, g18, g19, g20, g21, g22, g23, g24, g25, g26, g27, g28, g29, g30, g31, g32, g33, g34, g35, g36, g37, g38, g39, g40, g41, g42, g43, g44, g45, g46, g47, g48, g49, g50, g51, g52, g53, g54, g55, if_false]
      rw [this]
      exact next s hI
