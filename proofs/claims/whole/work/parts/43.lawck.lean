/-! ===== the law's blocks, checked ===== -/
set_option maxRecDepth 100000 in
theorem law_ck : xck "MurmurHallLaw" code 4 0 (some .boolean) xlaw o_law = true := by decide +kernel
theorem law_en : entO (xent xlaw) 16 = some ([], [7, 20, 21, 99]) := by decide +kernel
theorem plain_lt : 212 < nM := by rw [nM_eq]; decide
theorem mck_all (mi : Nat) (h : mi < nM) : mck mi = true := by have := mck_ok mi h; rw [Bool.and_eq_true] at this; exact this.1
/-- the law, out of what the abstract machine does -/
theorem law_go {p : Program} {e : Env} {s : State} {m : MethodId} {below : List Frame} {meth : Method} {c : Code} (l : Launch) {b L : Nat} {xs : Nat → Int32} (hL : L ≤ 384) (C0 : lw_At p s m meth c b L xs) (d : Nat) (hd : d ≤ 1000) (r1 : Int) (s1 t : Mem) (hpl : sem d 212 [137, 0] sI = some (r1, s1)) (hst : Gx (sem d) (fun j => (xs j.toNat).toInt) (L : Int) o_law 16 [] [0, 0, 137, 0] s1 1 t) : W p l e room_1 s m #[Value.ref b] below meth c s.heap [] 0 0 (lw_Z below #[Value.ref b] s) (entryFrame m ([Value.ref b] : List Value).toArray 4) := by
  obtain ⟨n, hn⟩ := hst
  exact law_start l hL C0 d hd (fun A G mi h => kt l A G d mi h) mck_all plain_lt xlaw law_ck law_en r1 s1 t hpl n hn
