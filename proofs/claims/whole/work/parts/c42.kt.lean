/-! ===== all methods have their contracts ===== -/
theorem all_at {n b : Nat} {g : Nat → Bool} (h : (List.range n).all g = true) {mi : Nat} (h1 : b ≤ mi) (h2 : mi < b + n) : g (mi - b) = true := List.all_eq_true.mp h (mi - b) (List.mem_range.mpr (by omega))
theorem mck_ok (mi : Nat) (h : mi < nM) : (mck mi && rok (jR mi) (jP mi)) = true := by
  rw [nM_eq] at h
  by_cases h0 : mi < 25
  · have := all_at (b := 0) mck_0 (by omega) (by omega : mi < 0 + 25)
    rwa [show 0 + (mi - 0) = mi by omega] at this
  by_cases h1 : mi < 50
  · have := all_at (b := 25) mck_1 (by omega) (by omega : mi < 25 + 25)
    rwa [show 25 + (mi - 25) = mi by omega] at this
  by_cases h2 : mi < 75
  · have := all_at (b := 50) mck_2 (by omega) (by omega : mi < 50 + 25)
    rwa [show 50 + (mi - 50) = mi by omega] at this
  by_cases h3 : mi < 100
  · have := all_at (b := 75) mck_3 (by omega) (by omega : mi < 75 + 25)
    rwa [show 75 + (mi - 75) = mi by omega] at this
  by_cases h4 : mi < 125
  · have := all_at (b := 100) mck_4 (by omega) (by omega : mi < 100 + 25)
    rwa [show 100 + (mi - 100) = mi by omega] at this
  by_cases h5 : mi < 150
  · have := all_at (b := 125) mck_5 (by omega) (by omega : mi < 125 + 25)
    rwa [show 125 + (mi - 125) = mi by omega] at this
  by_cases h6 : mi < 175
  · have := all_at (b := 150) mck_6 (by omega) (by omega : mi < 150 + 25)
    rwa [show 150 + (mi - 150) = mi by omega] at this
  by_cases h7 : mi < 200
  · have := all_at (b := 175) mck_7 (by omega) (by omega : mi < 175 + 25)
    rwa [show 175 + (mi - 175) = mi by omega] at this
  by_cases h8 : mi < 225
  · have := all_at (b := 200) mck_8 (by omega) (by omega : mi < 200 + 25)
    rwa [show 200 + (mi - 200) = mi by omega] at this
  by_cases h9 : mi < 250
  · have := all_at (b := 225) mck_9 (by omega) (by omega : mi < 225 + 25)
    rwa [show 225 + (mi - 225) = mi by omega] at this
  by_cases h10 : mi < 275
  · have := all_at (b := 250) mck_10 (by omega) (by omega : mi < 250 + 25)
    rwa [show 250 + (mi - 250) = mi by omega] at this
  by_cases h11 : mi < 300
  · have := all_at (b := 275) mck_11 (by omega) (by omega : mi < 275 + 25)
    rwa [show 275 + (mi - 275) = mi by omega] at this
  by_cases h12 : mi < 325
  · have := all_at (b := 300) mck_12 (by omega) (by omega : mi < 300 + 25)
    rwa [show 300 + (mi - 300) = mi by omega] at this
  by_cases h13 : mi < 350
  · have := all_at (b := 325) mck_13 (by omega) (by omega : mi < 325 + 25)
    rwa [show 325 + (mi - 325) = mi by omega] at this
  by_cases h14 : mi < 371
  · have := all_at (b := 350) mck_14 (by omega) (by omega : mi < 350 + 21)
    rwa [show 350 + (mi - 350) = mi by omega] at this
  omega
theorem mchk_ok (mi : Nat) (h : mi < nM) : ∃ x : Xt, mchk mi x = true := by
  rw [nM_eq] at h
  by_cases h0 : mi < 25
  · have := all_at (b := 0) mchk_0 (by omega) (by omega : mi < 0 + 25)
    rw [show 0 + (mi - 0) = mi by omega] at this
    exact ⟨_, this⟩
  by_cases h1 : mi < 50
  · have := all_at (b := 25) mchk_1 (by omega) (by omega : mi < 25 + 25)
    rw [show 25 + (mi - 25) = mi by omega] at this
    exact ⟨_, this⟩
  by_cases h2 : mi < 75
  · have := all_at (b := 50) mchk_2 (by omega) (by omega : mi < 50 + 25)
    rw [show 50 + (mi - 50) = mi by omega] at this
    exact ⟨_, this⟩
  by_cases h3 : mi < 100
  · have := all_at (b := 75) mchk_3 (by omega) (by omega : mi < 75 + 25)
    rw [show 75 + (mi - 75) = mi by omega] at this
    exact ⟨_, this⟩
  by_cases h4 : mi < 125
  · have := all_at (b := 100) mchk_4 (by omega) (by omega : mi < 100 + 25)
    rw [show 100 + (mi - 100) = mi by omega] at this
    exact ⟨_, this⟩
  by_cases h5 : mi < 150
  · have := all_at (b := 125) mchk_5 (by omega) (by omega : mi < 125 + 25)
    rw [show 125 + (mi - 125) = mi by omega] at this
    exact ⟨_, this⟩
  by_cases h6 : mi < 175
  · have := all_at (b := 150) mchk_6 (by omega) (by omega : mi < 150 + 25)
    rw [show 150 + (mi - 150) = mi by omega] at this
    exact ⟨_, this⟩
  by_cases h7 : mi < 200
  · have := all_at (b := 175) mchk_7 (by omega) (by omega : mi < 175 + 25)
    rw [show 175 + (mi - 175) = mi by omega] at this
    exact ⟨_, this⟩
  by_cases h8 : mi < 225
  · have := all_at (b := 200) mchk_8 (by omega) (by omega : mi < 200 + 25)
    rw [show 200 + (mi - 200) = mi by omega] at this
    exact ⟨_, this⟩
  by_cases h9 : mi < 250
  · have := all_at (b := 225) mchk_9 (by omega) (by omega : mi < 225 + 25)
    rw [show 225 + (mi - 225) = mi by omega] at this
    exact ⟨_, this⟩
  by_cases h10 : mi < 275
  · have := all_at (b := 250) mchk_10 (by omega) (by omega : mi < 250 + 25)
    rw [show 250 + (mi - 250) = mi by omega] at this
    exact ⟨_, this⟩
  by_cases h11 : mi < 300
  · have := all_at (b := 275) mchk_11 (by omega) (by omega : mi < 275 + 25)
    rw [show 275 + (mi - 275) = mi by omega] at this
    exact ⟨_, this⟩
  by_cases h12 : mi < 325
  · have := all_at (b := 300) mchk_12 (by omega) (by omega : mi < 300 + 25)
    rw [show 300 + (mi - 300) = mi by omega] at this
    exact ⟨_, this⟩
  by_cases h13 : mi < 350
  · have := all_at (b := 325) mchk_13 (by omega) (by omega : mi < 325 + 25)
    rw [show 325 + (mi - 325) = mi by omega] at this
    exact ⟨_, this⟩
  by_cases h14 : mi < 371
  · have := all_at (b := 350) mchk_14 (by omega) (by omega : mi < 350 + 21)
    rw [show 350 + (mi - 350) = mi by omega] at this
    exact ⟨_, this⟩
  omega
/-- whatever the abstract machine answers of a method, the Java machine answers -/
theorem kt (l : Launch) (A : Nat → Prop) (G : WG) (d mi : Nat) (h : mi < nM) : Kt l A G d mi := kt_all (fun mi h => by have := mck_ok mi h; rw [Bool.and_eq_true] at this; exact this.1) mchk_ok (fun mi h => by have := mck_ok mi h; rw [Bool.and_eq_true] at this; exact this.2) d mi h
