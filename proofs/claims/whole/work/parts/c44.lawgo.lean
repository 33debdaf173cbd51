/-! ===== the law, out of what the abstract machine does ===== -/
theorem all_of_chunk {α : Type} {l : List α} {p : α → Bool} {n : Nat} (h : ((l.drop n).take 6).all p = true) {i : Nat} {q : α} (hq : l[i]? = some q) (h1 : n ≤ i) (h2 : i < n + 6) : p q = true := by
  refine List.all_eq_true.mp h q (List.mem_of_getElem? (i := i - n) ?_)
  rw [List.getElem?_take, if_pos (by omega), List.getElem?_drop, show n + (i - n) = i by omega]
  exact hq
theorem law_ck : xck "MurmurHallLaw" code 4 0 (some .boolean) xlaw o_law = true := by
  refine List.all_eq_true.mpr (fun q hq => ?_)
  obtain ⟨i, hi⟩ := List.getElem?_of_mem hq
  have hl : i < 60 := by rw [← xlaw_len]; exact (List.getElem?_eq_some_iff.mp hi).1
  show lawp q = true
  by_cases c0 : i < 6
  · exact all_of_chunk law_ck_0 hi (by omega) (by omega)
  by_cases c1 : i < 12
  · exact all_of_chunk law_ck_1 hi (by omega) (by omega)
  by_cases c2 : i < 18
  · exact all_of_chunk law_ck_2 hi (by omega) (by omega)
  by_cases c3 : i < 24
  · exact all_of_chunk law_ck_3 hi (by omega) (by omega)
  by_cases c4 : i < 30
  · exact all_of_chunk law_ck_4 hi (by omega) (by omega)
  by_cases c5 : i < 36
  · exact all_of_chunk law_ck_5 hi (by omega) (by omega)
  by_cases c6 : i < 42
  · exact all_of_chunk law_ck_6 hi (by omega) (by omega)
  by_cases c7 : i < 48
  · exact all_of_chunk law_ck_7 hi (by omega) (by omega)
  by_cases c8 : i < 54
  · exact all_of_chunk law_ck_8 hi (by omega) (by omega)
  by_cases c9 : i < 60
  · exact all_of_chunk law_ck_9 hi (by omega) (by omega)
  omega
theorem plain_lt : 212 < nM := by rw [nM_eq]; decide
theorem mck_all (mi : Nat) (h : mi < nM) : mck mi = true := by have := mck_ok mi h; rw [Bool.and_eq_true] at this; exact this.1
theorem law_go {p : Program} {e : Env} {s : State} {m : MethodId} {below : List Frame} {meth : Method} {c : Code} (l : Launch) {b L : Nat} {xs : Nat → Int32} (hL : L ≤ 384) (C0 : lw_At p s m meth c b L xs) (d : Nat) (hd : d ≤ 1000) (r1 : Int) (s1 t : Mem) (hpl : sem d 212 [137, 0] sI = some (r1, s1)) (hst : Gx (sem d) (fun j => (xs j.toNat).toInt) (L : Int) o_law 16 [] [0, 0, 137, 0] s1 1 t) : W p l e room_1 s m #[Value.ref b] below meth c s.heap [] 0 0 (lw_Z below #[Value.ref b] s) (entryFrame m ([Value.ref b] : List Value).toArray 4) := by
  obtain ⟨n, hn⟩ := hst
  exact law_start l hL C0 d hd (fun A G mi h => kt l A G d mi h) mck_all plain_lt xlaw law_ck law_en r1 s1 t hpl n hn
