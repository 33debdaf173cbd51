/-! ===== cells, read and written ===== -/
def ctyCk (k : Nat) : Bool := cty k == 2 || cty k == 3 || cty k == 4 || (decide (10 ≤ cty k) && decide (cty k < 22))
def refCk (k : Nat) : Bool := decide (cty k < 10) || (List.range (clW (cty k - 10))).all fun j => decide (1000 ≤ fkd (cty k - 10) j) || (decide (0 ≤ (k : Int) + fkd (cty k - 10) j) && decide ((k : Int) + fkd (cty k - 10) j < 155) && (cty ((k : Int) + fkd (cty k - 10) j).toNat == frt (cty k - 10) j) && isRefTy (frt (cty k - 10) j))
theorem cty_ck : ∀ k, k < 155 → ctyCk k = true := by decide +kernel
theorem ref_ck : ∀ k, k < 155 → refCk k = true := by decide +kernel
theorem ce_obj {G : WG} {s : Mem} {k c : Nat} (h : cty k = 10 + c) : ce G s k = (ga G k, .inr (c, fvl G s k 0 (fkt.getD c []))) := by
  unfold ce; rw [if_neg (by omega), if_neg (by omega), if_neg (by omega), h, show 10 + c - 10 = c by omega]
theorem ce_2 {G : WG} {s : Mem} {k : Nat} (h : cty k = 2) : ce G s k = (ga G k, .inl (gIn G, cle k, .inl (fun j => Int32.ofInt (s k j)))) := by
  unfold ce; rw [if_pos h]
theorem ce_3 {G : WG} {s : Mem} {k : Nat} (h : cty k = 3) : ce G s k = (ga G k, .inl (gJ G, cle k, .inr (.inl (fun j => Int64.ofInt (s k j))))) := by
  unfold ce; rw [if_neg (by omega), if_pos h]
theorem ce_4 {G : WG} {s : Mem} {k : Nat} (h : cty k = 4) : ce G s k = (ga G k, .inl (gB G, cle k, .inl (fun j => Int32.ofInt (s k j)))) := by
  unfold ce; rw [if_neg (by omega), if_neg (by omega), if_pos h]
theorem fkd_get {c j : Nat} (hc : c < 12) (hj : j < clW c) : (fkt.getD c [])[j]? = some (fkd c j) := by
  have hl : j < (fkt.getD c []).length := by rw [cls_len c hc]; exact hj
  rw [List.getElem?_eq_getElem hl]
  exact congrArg some (lget_of (List.getElem?_eq_getElem hl)).symm
theorem okc_2 {k : Nat} {j v : Int} (h : cty k = 2) : okc k j v ↔ in32 v := by unfold okc; rw [if_pos h]
theorem okc_3 {k : Nat} {j v : Int} (h : cty k = 3) : okc k j v ↔ in64 v := by unfold okc; rw [if_neg (by omega), if_pos h]
theorem okc_4 {k : Nat} {j v : Int} (h : cty k = 4) : okc k j v ↔ -128 ≤ v ∧ v < 128 := by unfold okc; rw [if_neg (by omega), if_neg (by omega), if_pos h]
theorem okc_o {k c : Nat} {j : Nat} {v : Int} (h : cty k = 10 + c) : okc k j v ↔ (if fkd c j = 1001 then in64 v else if fkd c j = 1002 then v = 0 ∨ v = 1 else in32 v) := by
  unfold okc fkd; rw [if_neg (by omega), if_neg (by omega), if_neg (by omega), h, show 10 + c - 10 = c by omega, Int.toNat_natCast]
theorem bool_in {v : Int} (h : v = 0 ∨ v = 1) : in32 v := by unfold in32; omega
theorem va_D_wld {A : Nat → Prop} {G : WG} {s t : Mem} (h : va_D A (wld G s)) : va_D A (wld G t) := by
  refine ⟨fun i j x y hx hy hxy => ?_, fun k q hq => ?_⟩
  · obtain ⟨h1, rfl⟩ := wld_at hx
    obtain ⟨h2, rfl⟩ := wld_at hy
    exact h.1 i j _ _ (wld_get h1) (wld_get h2) hxy
  · obtain ⟨h1, rfl⟩ := wld_at hq
    exact (h.2 k (ce G s k) (wld_get h1) : A (ga G k))
theorem mset_nat {s : Mem} {k : Nat} {j v : Int} : ∀ b : Nat, b ≠ k → s (b : Int) = mset s k j v (b : Int) := fun b hb => (mset_other (by omega)).symm
theorem i32_min {x y : Int} (hx : in32 x) (hy : in32 y) : (if Int32.ofInt y < Int32.ofInt x then Int32.ofInt y else Int32.ofInt x) = Int32.ofInt (min x y) := by
  simp only [i32_lt hy hx]
  split
  · rw [show min x y = y by omega]
  · rw [show min x y = x by omega]
theorem i32_abs {x : Int} (hx : in32 x) : (if 0 ≤ Int32.ofInt x then Int32.ofInt x else 0 - Int32.ofInt x) = Int32.ofInt (wr (if x < 0 then -x else x)) := by
  rw [i32_wr]
  have h0 : (0 ≤ Int32.ofInt x) = (0 ≤ x) := propext (i32_le in32_0 hx)
  simp only [h0]
  by_cases h : x < 0
  · rw [if_pos h, if_neg (by omega), Int32.ofInt_neg, Int32.zero_sub]
  · rw [if_neg h, if_pos (by omega)]
section Sim
variable {p : Program} {l : Launch} {e : Env} {R : Room} {s0 : State} {m : MethodId} {args : Array Value} {below : List Frame} {meth : Method} {c : Code} {Q : State → Prop} {cc : ByteArray} {own : String} {nL : Nat} {A : Nat → Prop} {G : WG} {sc : Prop} {xs : Int → Int} {L : Int} {kc ks : Nat}
theorem o_getI (C : Cx p R s0 m args c cc own nL A G sc xs L kc ks) {pc : Nat} {τs τl : List Nat} {st ls : List Int} {s : Mem} {a : Int} {cn j idx : Nat} (hd : decode cc pc = .ok (.getfield idx, 3)) (hc : cn < 12) (hj : j < clW cn) (hlink : Cond.fieldLink own idx (clN cn) (clT cn j).2.1 (clT cn j).2.2.1 ∈ lw_g) (hown : (clT cn j).1 = clN cn) (hf : fkd cn j = 1000 ∨ fkd cn j = 1002) (k : Wd p l e R s0 m args below meth c Q A G nL sc kc ks (pc + 3) (0 :: τs) τl (s a j :: st) ls s) : Wd p l e R s0 m args below meth c Q A G nL sc kc ks pc ((10 + cn) :: τs) τl (a :: st) ls s := by
  intro hs hl hm H locs lsC hP hD hS hv
  have hr : 10 + cn = 2 ∨ 10 + cn = 3 ∨ 10 + cn = 4 ∨ (10 ≤ 10 + cn ∧ 10 + cn < 99) := by omega
  obtain ⟨h0, h1, h2⟩ := (okvr hr).mp hs.1
  obtain ⟨q, rfl⟩ : ∃ q : Nat, a = q := ⟨a.toNat, by omega⟩
  rw [Int.toNat_natCast] at h2
  have hq : q < 155 := by omega
  have he : (wld G s)[q]? = some (ga G q, .inr (cn, fvl G s q 0 (fkt.getD cn []))) := by rw [wld_get hq, ce_obj h2]
  unfold stkB
  rw [cvr hr, Int.toNat_natCast]
  have hlk := hlink
  refine va_get (D := gD G) (ci := cn) (v := fv G s q j (fkd cn j)) (C := clN cn) (T := clT cn) (N := clW cn) (ref := clN cn) C.1.1 C.1.2.1 C.1.2.2.2.2 (cls_ws hc) C.1.2.2.2.1 C.2.1.1 hP q he (cls_at cn hc) j hj (C.1.2.2.2.2 _ hlink) (fun _ h => by rw [hown] at h; exact h) ?_ hd ?_
  · rw [fvl_get _ 0 j _ (fkd_get hc hj), Nat.zero_add]
  · have hb : okv sc 0 (s q j) := by
      have := (okc_o (j := j) h2).mp (hm q j)
      rcases hf with hf | hf
      · rw [hf, if_neg (by decide), if_neg (by decide)] at this; exact this
      · rw [hf, if_neg (by decide), if_pos rfl] at this; exact bool_in this
    have h := k ⟨hb, hs.2⟩ hl hm H locs lsC hP hD hS hv
    unfold stkB at h
    unfold fv
    rw [if_neg (by omega), if_pos hf]
    exact h
theorem o_getL (C : Cx p R s0 m args c cc own nL A G sc xs L kc ks) {pc : Nat} {τs τl : List Nat} {st ls : List Int} {s : Mem} {a : Int} {cn j idx : Nat} (hd : decode cc pc = .ok (.getfield idx, 3)) (hc : cn < 12) (hj : j < clW cn) (hlink : Cond.fieldLink own idx (clN cn) (clT cn j).2.1 (clT cn j).2.2.1 ∈ lw_g) (hown : (clT cn j).1 = clN cn) (hf : fkd cn j = 1001) (k : Wd p l e R s0 m args below meth c Q A G nL sc kc ks (pc + 3) (1 :: τs) τl (s a j :: st) ls s) : Wd p l e R s0 m args below meth c Q A G nL sc kc ks pc ((10 + cn) :: τs) τl (a :: st) ls s := by
  intro hs hl hm H locs lsC hP hD hS hv
  have hr : 10 + cn = 2 ∨ 10 + cn = 3 ∨ 10 + cn = 4 ∨ (10 ≤ 10 + cn ∧ 10 + cn < 99) := by omega
  obtain ⟨h0, h1, h2⟩ := (okvr hr).mp hs.1
  obtain ⟨q, rfl⟩ : ∃ q : Nat, a = q := ⟨a.toNat, by omega⟩
  rw [Int.toNat_natCast] at h2
  have hq : q < 155 := by omega
  have he : (wld G s)[q]? = some (ga G q, .inr (cn, fvl G s q 0 (fkt.getD cn []))) := by rw [wld_get hq, ce_obj h2]
  unfold stkB
  rw [cvr hr, Int.toNat_natCast]
  have hlk := hlink
  refine va_get (D := gD G) (ci := cn) (v := fv G s q j (fkd cn j)) (C := clN cn) (T := clT cn) (N := clW cn) (ref := clN cn) C.1.1 C.1.2.1 C.1.2.2.2.2 (cls_ws hc) C.1.2.2.2.1 C.2.1.1 hP q he (cls_at cn hc) j hj (C.1.2.2.2.2 _ hlink) (fun _ h => by rw [hown] at h; exact h) ?_ hd ?_
  · rw [fvl_get _ 0 j _ (fkd_get hc hj), Nat.zero_add]
  · have hb : okv sc 1 (s q j) := by
      have := (okc_o (j := j) h2).mp (hm q j)
      rw [if_pos hf] at this; exact this
    have h := k ⟨hb, hs.2⟩ hl hm H locs lsC hP hD hS hv
    unfold stkB at h
    unfold fv
    rw [if_pos hf]
    exact h
theorem o_getR (C : Cx p R s0 m args c cc own nL A G sc xs L kc ks) {pc : Nat} {τs τl : List Nat} {st ls : List Int} {s : Mem} {a : Int} {cn j idx : Nat} (hd : decode cc pc = .ok (.getfield idx, 3)) (hc : cn < 12) (hj : j < clW cn) (hlink : Cond.fieldLink own idx (clN cn) (clT cn j).2.1 (clT cn j).2.2.1 ∈ lw_g) (hown : (clT cn j).1 = clN cn) (hf : fkd cn j < 1000) (k : Wd p l e R s0 m args below meth c Q A G nL sc kc ks (pc + 3) (frt cn j :: τs) τl ((a + fkd cn j) :: st) ls s) : Wd p l e R s0 m args below meth c Q A G nL sc kc ks pc ((10 + cn) :: τs) τl (a :: st) ls s := by
  intro hs hl hm H locs lsC hP hD hS hv
  have hr : 10 + cn = 2 ∨ 10 + cn = 3 ∨ 10 + cn = 4 ∨ (10 ≤ 10 + cn ∧ 10 + cn < 99) := by omega
  obtain ⟨h0, h1, h2⟩ := (okvr hr).mp hs.1
  obtain ⟨q, rfl⟩ : ∃ q : Nat, a = q := ⟨a.toNat, by omega⟩
  rw [Int.toNat_natCast] at h2
  have hq : q < 155 := by omega
  have he : (wld G s)[q]? = some (ga G q, .inr (cn, fvl G s q 0 (fkt.getD cn []))) := by rw [wld_get hq, ce_obj h2]
  unfold stkB
  rw [cvr hr, Int.toNat_natCast]
  have hlk := hlink
  refine va_get (D := gD G) (ci := cn) (v := fv G s q j (fkd cn j)) (C := clN cn) (T := clT cn) (N := clW cn) (ref := clN cn) C.1.1 C.1.2.1 C.1.2.2.2.2 (cls_ws hc) C.1.2.2.2.1 C.2.1.1 hP q he (cls_at cn hc) j hj (C.1.2.2.2.2 _ hlink) (fun _ h => by rw [hown] at h; exact h) ?_ hd ?_
  · rw [fvl_get _ 0 j _ (fkd_get hc hj), Nat.zero_add]
  · have h3 := ref_ck q hq
    unfold refCk at h3
    rw [h2, show 10 + cn - 10 = cn by omega, Bool.or_eq_true, decide_eq_true_eq] at h3
    have h4 := List.all_eq_true.mp (h3.resolve_left (by omega)) j (List.mem_range.mpr hj)
    simp only [Bool.or_eq_true, Bool.and_eq_true, decide_eq_true_eq, beq_iff_eq] at h4
    obtain ⟨⟨⟨h5, h6⟩, h7⟩, h8⟩ := h4.resolve_left (by omega)
    have hr2 := isRef_of h8
    have h := k ⟨(okvr hr2).mpr ⟨h5, h6, h7⟩, hs.2⟩ hl hm H locs lsC hP hD hS hv
    unfold stkB at h
    rw [cvr hr2] at h
    unfold fv
    rw [if_neg (by omega), if_neg (by omega)]
    exact h
theorem o_putI (C : Cx p R s0 m args c cc own nL A G sc xs L kc ks) {pc : Nat} {τs τl : List Nat} {st ls : List Int} {s : Mem} {a v : Int} {cn j idx : Nat} (hd : decode cc pc = .ok (.putfield idx, 3)) (hc : cn < 12) (hj : j < clW cn) (hlink : Cond.fieldLink own idx (clN cn) (clT cn j).2.1 (clT cn j).2.2.1 ∈ lw_g) (hown : (clT cn j).1 = clN cn) (hfin : (clT cn j).2.2.2 = false) (hty : clF cn j = .int) (hf : fkd cn j = 1000) (k : Wd p l e R s0 m args below meth c Q A G nL sc kc ks (pc + 3) τs τl st ls (mset s a j v)) : Wd p l e R s0 m args below meth c Q A G nL sc kc ks pc (0 :: (10 + cn) :: τs) τl (v :: a :: st) ls s := by
  intro hs hl hm H locs lsC hP hD hS hv
  have hr : 10 + cn = 2 ∨ 10 + cn = 3 ∨ 10 + cn = 4 ∨ (10 ≤ 10 + cn ∧ 10 + cn < 99) := by omega
  obtain ⟨h0, h1, h2⟩ := (okvr hr).mp hs.2.1
  obtain ⟨q, rfl⟩ : ∃ q : Nat, a = q := ⟨a.toNat, by omega⟩
  rw [Int.toNat_natCast] at h2
  have hq : q < 155 := by omega
  have he : (wld G s)[q]? = some (ga G q, .inr (cn, fvl G s q 0 (fkt.getD cn []))) := by rw [wld_get hq, ce_obj h2]
  unfold stkB stkB
  rw [cv0, cvr hr, Int.toNat_natCast]
  have hfd := fkd_get hc hj
  refine va_put (D := gD G) (ci := cn) (v := .int (Int32.ofInt v)) (ty := .int) (C := clN cn) (T := clT cn) (N := clW cn) (ref := clN cn) C.1.1 C.1.2.1 C.1.2.2.2.2 (cls_ws hc) (clF cn) (cls_ty cn hc) (cls_nm cn hc) C.1.2.2.2.1 C.2.1.1 hP hD hS q he (cls_at cn hc) j hj (C.1.2.2.2.2 _ hlink) (fun _ h => by rw [hown] at h; exact h) hfin (by rw [cls_ty cn hc j hj, hty]) rfl rfl (by rw [fvl_len, cls_len cn hc]; exact hj) hd (fun H1 locs1 hP1 hD1 hS1 => ?_)
  have e1 : (wld G s).set q (ga G q, .inr (cn, (fvl G s q 0 (fkt.getD cn [])).set j (.int (Int32.ofInt v)))) = wld G (mset s q j v) := by
    rw [← wld_set (G := G) hq (mset_nat (s := s) (k := q) (j := j) (v := v)), ce_obj h2]
    have h9 := fvl_set (G := G) (s := s) (k := q) (i := j) (v := v) (fkt.getD cn []) 0 _ hfd
    simp only [Nat.zero_add] at h9
    rw [← h9]
    congr 5
    unfold fv mset
    rw [if_pos rfl, if_pos rfl, if_neg (by omega), if_pos (Or.inl hf)]
  rw [e1] at hP1 hD1
  refine k hs.2.2 hl (okm_set hm ?_) H1 locs1 lsC hP1 hD1 hS1 hv
  rw [okc_o h2, if_neg (by omega), if_neg (by omega)]; exact hs.1
theorem o_putL (C : Cx p R s0 m args c cc own nL A G sc xs L kc ks) {pc : Nat} {τs τl : List Nat} {st ls : List Int} {s : Mem} {a v : Int} {cn j idx : Nat} (hd : decode cc pc = .ok (.putfield idx, 3)) (hc : cn < 12) (hj : j < clW cn) (hlink : Cond.fieldLink own idx (clN cn) (clT cn j).2.1 (clT cn j).2.2.1 ∈ lw_g) (hown : (clT cn j).1 = clN cn) (hfin : (clT cn j).2.2.2 = false) (hty : clF cn j = .long) (hf : fkd cn j = 1001) (k : Wd p l e R s0 m args below meth c Q A G nL sc kc ks (pc + 3) τs τl st ls (mset s a j v)) : Wd p l e R s0 m args below meth c Q A G nL sc kc ks pc (1 :: (10 + cn) :: τs) τl (v :: a :: st) ls s := by
  intro hs hl hm H locs lsC hP hD hS hv
  have hr : 10 + cn = 2 ∨ 10 + cn = 3 ∨ 10 + cn = 4 ∨ (10 ≤ 10 + cn ∧ 10 + cn < 99) := by omega
  obtain ⟨h0, h1, h2⟩ := (okvr hr).mp hs.2.1
  obtain ⟨q, rfl⟩ : ∃ q : Nat, a = q := ⟨a.toNat, by omega⟩
  rw [Int.toNat_natCast] at h2
  have hq : q < 155 := by omega
  have he : (wld G s)[q]? = some (ga G q, .inr (cn, fvl G s q 0 (fkt.getD cn []))) := by rw [wld_get hq, ce_obj h2]
  unfold stkB stkB
  rw [cv1, cvr hr, Int.toNat_natCast]
  have hfd := fkd_get hc hj
  refine va_put (D := gD G) (ci := cn) (v := .long (Int64.ofInt v)) (ty := .long) (C := clN cn) (T := clT cn) (N := clW cn) (ref := clN cn) C.1.1 C.1.2.1 C.1.2.2.2.2 (cls_ws hc) (clF cn) (cls_ty cn hc) (cls_nm cn hc) C.1.2.2.2.1 C.2.1.1 hP hD hS q he (cls_at cn hc) j hj (C.1.2.2.2.2 _ hlink) (fun _ h => by rw [hown] at h; exact h) hfin (by rw [cls_ty cn hc j hj, hty]) rfl rfl (by rw [fvl_len, cls_len cn hc]; exact hj) hd (fun H1 locs1 hP1 hD1 hS1 => ?_)
  have e1 : (wld G s).set q (ga G q, .inr (cn, (fvl G s q 0 (fkt.getD cn [])).set j (.long (Int64.ofInt v)))) = wld G (mset s q j v) := by
    rw [← wld_set (G := G) hq (mset_nat (s := s) (k := q) (j := j) (v := v)), ce_obj h2]
    have h9 := fvl_set (G := G) (s := s) (k := q) (i := j) (v := v) (fkt.getD cn []) 0 _ hfd
    simp only [Nat.zero_add] at h9
    rw [← h9]
    congr 5
    unfold fv mset
    rw [if_pos rfl, if_pos rfl, if_pos hf]
  rw [e1] at hP1 hD1
  refine k hs.2.2 hl (okm_set hm ?_) H1 locs1 lsC hP1 hD1 hS1 hv
  rw [okc_o h2, if_pos hf]; exact hs.1
theorem o_putZ (C : Cx p R s0 m args c cc own nL A G sc xs L kc ks) {pc : Nat} {τs τl : List Nat} {st ls : List Int} {s : Mem} {a v : Int} {cn j idx : Nat} (hd : decode cc pc = .ok (.putfield idx, 3)) (hc : cn < 12) (hj : j < clW cn) (hlink : Cond.fieldLink own idx (clN cn) (clT cn j).2.1 (clT cn j).2.2.1 ∈ lw_g) (hown : (clT cn j).1 = clN cn) (hfin : (clT cn j).2.2.2 = false) (hty : clF cn j = .boolean) (hf : fkd cn j = 1002) (hv2 : v = 0 ∨ v = 1) (k : Wd p l e R s0 m args below meth c Q A G nL sc kc ks (pc + 3) τs τl st ls (mset s a j v)) : Wd p l e R s0 m args below meth c Q A G nL sc kc ks pc (0 :: (10 + cn) :: τs) τl (v :: a :: st) ls s := by
  intro hs hl hm H locs lsC hP hD hS hv
  have hr : 10 + cn = 2 ∨ 10 + cn = 3 ∨ 10 + cn = 4 ∨ (10 ≤ 10 + cn ∧ 10 + cn < 99) := by omega
  obtain ⟨h0, h1, h2⟩ := (okvr hr).mp hs.2.1
  obtain ⟨q, rfl⟩ : ∃ q : Nat, a = q := ⟨a.toNat, by omega⟩
  rw [Int.toNat_natCast] at h2
  have hq : q < 155 := by omega
  have he : (wld G s)[q]? = some (ga G q, .inr (cn, fvl G s q 0 (fkt.getD cn []))) := by rw [wld_get hq, ce_obj h2]
  unfold stkB stkB
  rw [cv0, cvr hr, Int.toNat_natCast]
  have hfd := fkd_get hc hj
  refine va_put (D := gD G) (ci := cn) (v := .int (Int32.ofInt v)) (ty := .boolean) (C := clN cn) (T := clT cn) (N := clW cn) (ref := clN cn) C.1.1 C.1.2.1 C.1.2.2.2.2 (cls_ws hc) (clF cn) (cls_ty cn hc) (cls_nm cn hc) C.1.2.2.2.1 C.2.1.1 hP hD hS q he (cls_at cn hc) j hj (C.1.2.2.2.2 _ hlink) (fun _ h => by rw [hown] at h; exact h) hfin (by rw [cls_ty cn hc j hj, hty]) (by rcases hv2 with rfl | rfl <;> rfl) (by rcases hv2 with rfl | rfl <;> rfl) (by rw [fvl_len, cls_len cn hc]; exact hj) hd (fun H1 locs1 hP1 hD1 hS1 => ?_)
  have e1 : (wld G s).set q (ga G q, .inr (cn, (fvl G s q 0 (fkt.getD cn [])).set j (.int (Int32.ofInt v)))) = wld G (mset s q j v) := by
    rw [← wld_set (G := G) hq (mset_nat (s := s) (k := q) (j := j) (v := v)), ce_obj h2]
    have h9 := fvl_set (G := G) (s := s) (k := q) (i := j) (v := v) (fkt.getD cn []) 0 _ hfd
    simp only [Nat.zero_add] at h9
    rw [← h9]
    congr 5
    unfold fv mset
    rw [if_pos rfl, if_pos rfl, if_neg (by omega), if_pos (Or.inr hf)]
  rw [e1] at hP1 hD1
  refine k hs.2.2 hl (okm_set hm ?_) H1 locs1 lsC hP1 hD1 hS1 hv
  rw [okc_o h2, if_neg (by omega), if_pos hf]; exact hv2
theorem o_iaload (C : Cx p R s0 m args c cc own nL A G sc xs L kc ks) {pc : Nat} {τs τl : List Nat} {st ls : List Int} {s : Mem} {a i : Int} (hd : decode cc pc = .ok (.iaload, 1)) (hi : 0 ≤ i ∧ i < alen a) (k : Wd p l e R s0 m args below meth c Q A G nL sc kc ks (pc + 1) (0 :: τs) τl (s a i :: st) ls s) : Wd p l e R s0 m args below meth c Q A G nL sc kc ks pc (0 :: 2 :: τs) τl (i :: a :: st) ls s := by
  intro hs hl hm H locs lsC hP hD hS hv
  have hr : (2 : Nat) = 2 ∨ (2 : Nat) = 3 ∨ (2 : Nat) = 4 ∨ (10 ≤ (2 : Nat) ∧ (2 : Nat) < 99) := by omega
  obtain ⟨h0, h1, h2⟩ := (okvr hr).mp hs.2.1
  obtain ⟨q, rfl⟩ : ∃ q : Nat, a = q := ⟨a.toNat, by omega⟩
  rw [Int.toNat_natCast] at h2
  have hq : q < 155 := by omega
  have he := wld_get (G := G) (s := s) hq
  rw [ce_2 h2] at he
  have hal : alen (q : Int) = lget layLen q := by unfold alen; rw [Int.toNat_natCast]
  rw [hal] at hi
  unfold stkB stkB
  rw [cv0, cvr hr, Int.toNat_natCast]
  refine va_iald C.1.1 C.1.2.1 C.2.1.1 hP q 0 he rfl (i32_vin hi.1 hi.2 hs.1) hd ?_
  have hb : okv sc 0 (s q i) := (okc_2 h2).mp (hm q i)
  have h := k ⟨hb, hs.2.2⟩ hl hm H locs lsC hP hD hS hv
  unfold stkB at h
  rw [i32_nat hi.1 hs.1, Int.toNat_of_nonneg hi.1]
  exact h
theorem o_laload (C : Cx p R s0 m args c cc own nL A G sc xs L kc ks) {pc : Nat} {τs τl : List Nat} {st ls : List Int} {s : Mem} {a i : Int} (hd : decode cc pc = .ok (.laload, 1)) (hi : 0 ≤ i ∧ i < alen a) (k : Wd p l e R s0 m args below meth c Q A G nL sc kc ks (pc + 1) (1 :: τs) τl (s a i :: st) ls s) : Wd p l e R s0 m args below meth c Q A G nL sc kc ks pc (0 :: 3 :: τs) τl (i :: a :: st) ls s := by
  intro hs hl hm H locs lsC hP hD hS hv
  have hr : (3 : Nat) = 2 ∨ (3 : Nat) = 3 ∨ (3 : Nat) = 4 ∨ (10 ≤ (3 : Nat) ∧ (3 : Nat) < 99) := by omega
  obtain ⟨h0, h1, h2⟩ := (okvr hr).mp hs.2.1
  obtain ⟨q, rfl⟩ : ∃ q : Nat, a = q := ⟨a.toNat, by omega⟩
  rw [Int.toNat_natCast] at h2
  have hq : q < 155 := by omega
  have he := wld_get (G := G) (s := s) hq
  rw [ce_3 h2] at he
  have hal : alen (q : Int) = lget layLen q := by unfold alen; rw [Int.toNat_natCast]
  rw [hal] at hi
  unfold stkB stkB
  rw [cv0, cvr hr, Int.toNat_natCast]
  refine va_lald C.1.1 C.1.2.1 C.2.1.1 hP q 1 he rfl (i32_vin hi.1 hi.2 hs.1) hd ?_
  have hb : okv sc 1 (s q i) := (okc_3 h2).mp (hm q i)
  have h := k ⟨hb, hs.2.2⟩ hl hm H locs lsC hP hD hS hv
  unfold stkB at h
  rw [i32_nat hi.1 hs.1, Int.toNat_of_nonneg hi.1]
  exact h
theorem o_baload (C : Cx p R s0 m args c cc own nL A G sc xs L kc ks) {pc : Nat} {τs τl : List Nat} {st ls : List Int} {s : Mem} {a i : Int} (hd : decode cc pc = .ok (.baload, 1)) (hi : 0 ≤ i ∧ i < alen a) (k : Wd p l e R s0 m args below meth c Q A G nL sc kc ks (pc + 1) (0 :: τs) τl (s a i :: st) ls s) : Wd p l e R s0 m args below meth c Q A G nL sc kc ks pc (0 :: 4 :: τs) τl (i :: a :: st) ls s := by
  intro hs hl hm H locs lsC hP hD hS hv
  have hr : (4 : Nat) = 2 ∨ (4 : Nat) = 3 ∨ (4 : Nat) = 4 ∨ (10 ≤ (4 : Nat) ∧ (4 : Nat) < 99) := by omega
  obtain ⟨h0, h1, h2⟩ := (okvr hr).mp hs.2.1
  obtain ⟨q, rfl⟩ : ∃ q : Nat, a = q := ⟨a.toNat, by omega⟩
  rw [Int.toNat_natCast] at h2
  have hq : q < 155 := by omega
  have he := wld_get (G := G) (s := s) hq
  rw [ce_4 h2] at he
  have hal : alen (q : Int) = lget layLen q := by unfold alen; rw [Int.toNat_natCast]
  rw [hal] at hi
  unfold stkB stkB
  rw [cv0, cvr hr, Int.toNat_natCast]
  refine va_bald C.1.1 C.1.2.1 C.2.1.1 hP q 2 he rfl (i32_vin hi.1 hi.2 hs.1) hd ?_
  have hb : okv sc 0 (s q i) := (show in32 _ by have := (okc_4 h2).mp (hm q i); unfold in32; omega)
  have h := k ⟨hb, hs.2.2⟩ hl hm H locs lsC hP hD hS hv
  unfold stkB at h
  rw [i32_nat hi.1 hs.1, Int.toNat_of_nonneg hi.1]
  exact h
theorem o_iastore (C : Cx p R s0 m args c cc own nL A G sc xs L kc ks) {pc : Nat} {τs τl : List Nat} {st ls : List Int} {s : Mem} {a i v : Int} (hd : decode cc pc = .ok (.iastore, 1)) (hi : 0 ≤ i ∧ i < alen a) (k : Wd p l e R s0 m args below meth c Q A G nL sc kc ks (pc + 1) τs τl st ls (mset s a i v)) : Wd p l e R s0 m args below meth c Q A G nL sc kc ks pc (0 :: 0 :: 2 :: τs) τl (v :: i :: a :: st) ls s := by
  intro hs hl hm H locs lsC hP hD hS hv
  have hr : (2 : Nat) = 2 ∨ (2 : Nat) = 3 ∨ (2 : Nat) = 4 ∨ (10 ≤ (2 : Nat) ∧ (2 : Nat) < 99) := by omega
  obtain ⟨h0, h1, h2⟩ := (okvr hr).mp hs.2.2.1
  obtain ⟨q, rfl⟩ : ∃ q : Nat, a = q := ⟨a.toNat, by omega⟩
  rw [Int.toNat_natCast] at h2
  have hq : q < 155 := by omega
  have he := wld_get (G := G) (s := s) hq
  rw [ce_2 h2] at he
  have hal : alen (q : Int) = lget layLen q := by unfold alen; rw [Int.toNat_natCast]
  rw [hal] at hi
  unfold stkB stkB stkB
  rw [cv0, cv0, cvr hr, Int.toNat_natCast]
  refine va_iast C.1.1 C.1.2.1 C.2.1.1 hP hD hS q 0 he rfl (i32_vin hi.1 hi.2 hs.2.1) hd (fun H1 locs1 hP1 hD1 hS1 => ?_)
  rw [i32_nat hi.1 hs.2.1] at hP1 hD1
  have e1 : ce G (mset s q i v) q = (ga G q, .inl (gIn G, cle q, .inl (upd (fun j => Int32.ofInt (s q j)) i.toNat (Int32.ofInt v)))) := by
    rw [ce_2 h2]
    have : (fun j : Nat => Int32.ofInt (mset s q i v q j)) = upd (fun j => Int32.ofInt (s q j)) i.toNat (Int32.ofInt v) := by
      funext j
      unfold mset upd
      rw [if_pos rfl]
      by_cases h : j = i.toNat
      · rw [if_pos h, if_pos (by omega)]
      · rw [if_neg h, if_neg (by omega)]
    rw [this]
  rw [← e1, wld_set hq mset_nat] at hP1 hD1
  exact k hs.2.2.2 hl (okm_set hm ((okc_2 h2).mpr hs.1)) H1 locs1 lsC hP1 hD1 hS1 hv
theorem o_lastore (C : Cx p R s0 m args c cc own nL A G sc xs L kc ks) {pc : Nat} {τs τl : List Nat} {st ls : List Int} {s : Mem} {a i v : Int} (hd : decode cc pc = .ok (.lastore, 1)) (hi : 0 ≤ i ∧ i < alen a) (k : Wd p l e R s0 m args below meth c Q A G nL sc kc ks (pc + 1) τs τl st ls (mset s a i v)) : Wd p l e R s0 m args below meth c Q A G nL sc kc ks pc (1 :: 0 :: 3 :: τs) τl (v :: i :: a :: st) ls s := by
  intro hs hl hm H locs lsC hP hD hS hv
  have hr : (3 : Nat) = 2 ∨ (3 : Nat) = 3 ∨ (3 : Nat) = 4 ∨ (10 ≤ (3 : Nat) ∧ (3 : Nat) < 99) := by omega
  obtain ⟨h0, h1, h2⟩ := (okvr hr).mp hs.2.2.1
  obtain ⟨q, rfl⟩ : ∃ q : Nat, a = q := ⟨a.toNat, by omega⟩
  rw [Int.toNat_natCast] at h2
  have hq : q < 155 := by omega
  have he := wld_get (G := G) (s := s) hq
  rw [ce_3 h2] at he
  have hal : alen (q : Int) = lget layLen q := by unfold alen; rw [Int.toNat_natCast]
  rw [hal] at hi
  unfold stkB stkB stkB
  rw [cv1, cv0, cvr hr, Int.toNat_natCast]
  refine va_last C.1.1 C.1.2.1 C.2.1.1 hP hD hS q 1 he rfl (i32_vin hi.1 hi.2 hs.2.1) hd (fun H1 locs1 hP1 hD1 hS1 => ?_)
  rw [i32_nat hi.1 hs.2.1] at hP1 hD1
  have e1 : ce G (mset s q i v) q = (ga G q, .inl (gJ G, cle q, .inr (.inl (vp_updL (fun j => Int64.ofInt (s q j)) i.toNat (Int64.ofInt v))))) := by
    rw [ce_3 h2]
    have : (fun j : Nat => Int64.ofInt (mset s q i v q j)) = vp_updL (fun j => Int64.ofInt (s q j)) i.toNat (Int64.ofInt v) := by
      funext j
      unfold mset vp_updL
      rw [if_pos rfl]
      by_cases h : j = i.toNat
      · rw [if_pos h, if_pos (by omega)]
      · rw [if_neg h, if_neg (by omega)]
    rw [this]
  rw [← e1, wld_set hq mset_nat] at hP1 hD1
  exact k hs.2.2.2 hl (okm_set hm ((okc_3 h2).mpr hs.1)) H1 locs1 lsC hP1 hD1 hS1 hv
theorem o_bastore (C : Cx p R s0 m args c cc own nL A G sc xs L kc ks) {pc : Nat} {τs τl : List Nat} {st ls : List Int} {s : Mem} {a i v : Int} (hd : decode cc pc = .ok (.bastore, 1)) (hi : 0 ≤ i ∧ i < alen a) (k : Wd p l e R s0 m args below meth c Q A G nL sc kc ks (pc + 1) τs τl st ls (mset s a i (w8 v))) : Wd p l e R s0 m args below meth c Q A G nL sc kc ks pc (0 :: 0 :: 4 :: τs) τl (v :: i :: a :: st) ls s := by
  intro hs hl hm H locs lsC hP hD hS hv
  have hr : (4 : Nat) = 2 ∨ (4 : Nat) = 3 ∨ (4 : Nat) = 4 ∨ (10 ≤ (4 : Nat) ∧ (4 : Nat) < 99) := by omega
  obtain ⟨h0, h1, h2⟩ := (okvr hr).mp hs.2.2.1
  obtain ⟨q, rfl⟩ : ∃ q : Nat, a = q := ⟨a.toNat, by omega⟩
  rw [Int.toNat_natCast] at h2
  have hq : q < 155 := by omega
  have he := wld_get (G := G) (s := s) hq
  rw [ce_4 h2] at he
  have hal : alen (q : Int) = lget layLen q := by unfold alen; rw [Int.toNat_natCast]
  rw [hal] at hi
  unfold stkB stkB stkB
  rw [cv0, cv0, cvr hr, Int.toNat_natCast]
  refine va_bast C.1.1 C.1.2.1 C.2.1.1 hP hD hS q 2 he rfl (i32_vin hi.1 hi.2 hs.2.1) hd (fun H1 locs1 hP1 hD1 hS1 => ?_)
  rw [i32_byte hs.1, i32_nat hi.1 hs.2.1] at hP1 hD1
  have e1 : ce G (mset s q i (w8 v)) q = (ga G q, .inl (gB G, cle q, .inl (upd (fun j => Int32.ofInt (s q j)) i.toNat (Int32.ofInt (w8 v))))) := by
    rw [ce_4 h2]
    have : (fun j : Nat => Int32.ofInt (mset s q i (w8 v) q j)) = upd (fun j => Int32.ofInt (s q j)) i.toNat (Int32.ofInt (w8 v)) := by
      funext j
      unfold mset upd
      rw [if_pos rfl]
      by_cases h : j = i.toNat
      · rw [if_pos h, if_pos (by omega)]
      · rw [if_neg h, if_neg (by omega)]
    rw [this]
  rw [← e1, wld_set hq mset_nat] at hP1 hD1
  exact k hs.2.2.2 hl (okm_set hm ((okc_4 h2).mpr (w8_in v))) H1 locs1 lsC hP1 hD1 hS1 hv
theorem o_alen (C : Cx p R s0 m args c cc own nL A G sc xs L kc ks) {pc : Nat} {τs τl : List Nat} {st ls : List Int} {s : Mem} {a : Int} {t : Nat} (hd : decode cc pc = .ok (.arraylength, 1)) (ht : t = 2 ∨ t = 3 ∨ t = 4) (k : Wd p l e R s0 m args below meth c Q A G nL sc kc ks (pc + 1) (0 :: τs) τl (alen a :: st) ls s) : Wd p l e R s0 m args below meth c Q A G nL sc kc ks pc (t :: τs) τl (a :: st) ls s := by
  intro hs hl hm H locs lsC hP hD hS hv
  have hr : t = 2 ∨ t = 3 ∨ t = 4 ∨ (10 ≤ t ∧ t < 99) := by omega
  obtain ⟨h0, h1, h2⟩ := (okvr hr).mp hs.1
  obtain ⟨q, rfl⟩ : ∃ q : Nat, a = q := ⟨a.toNat, by omega⟩
  rw [Int.toNat_natCast] at h2
  have hq : q < 155 := by omega
  have he := wld_get (G := G) (s := s) hq
  have hal : alen (q : Int) = lget layLen q := by unfold alen; rw [Int.toNat_natCast]
  have hle : 0 ≤ lget layLen q ∧ lget layLen q < 10000 := by
    have := len_ck q hq
    unfold lenCk at this
    simpa using this
  unfold stkB
  rw [cvr hr, Int.toNat_natCast]
  have hb : okv sc 0 (alen (q : Int)) := by rw [hal]; show in32 _; unfold in32; omega
  have h := k ⟨hb, hs.2⟩ hl hm H locs lsC hP hD hS hv
  unfold stkB at h
  have hn : Int32.ofNat (cle q) = Int32.ofInt (alen (q : Int)) := by
    rw [hal]; unfold cle
    rw [← Int32.ofInt_eq_ofNat, Int.toNat_of_nonneg hle.1]
  rcases ht with rfl | rfl | rfl
  · rw [ce_2 h2] at he
    exact va_alen C.1.1 C.1.2.1 C.2.1.1 hP q 0 he rfl hn hd h
  · rw [ce_3 h2] at he
    exact va_alen C.1.1 C.1.2.1 C.2.1.1 hP q 1 he rfl hn hd h
  · rw [ce_4 h2] at he
    exact va_alen C.1.1 C.1.2.1 C.2.1.1 hP q 2 he rfl hn hd h
theorem o_saload (C : Cx p R s0 m args c cc own nL A G sc xs L kc ks) {pc : Nat} {τs τl : List Nat} {st ls : List Int} {s : Mem} {a i : Int} (hd : decode cc pc = .ok (.iaload, 1)) (hi : 0 ≤ i ∧ i < L) (k : Wd p l e R s0 m args below meth c Q A G nL sc kc ks (pc + 1) (0 :: τs) τl (xs i :: st) ls s) : Wd p l e R s0 m args below meth c Q A G nL sc kc ks pc (0 :: 7 :: τs) τl (i :: a :: st) ls s := by
  intro hs hl hm H locs lsC hP hD hS hv
  have h7 : sc := hs.2.1
  obtain ⟨Ln, hLn, hX, hb, hA, hin, hx⟩ := C.2.2.1 h7
  refine va_sld C.1.1 C.1.2.1 hX hb hA hS (i := Int32.ofInt i) ?_ hd ?_
  · have := i32_vin (n := L) hi.1 hi.2 hs.1
    rw [hLn, Int.toNat_natCast] at this; exact this
  have h := k ⟨hx i, hs.2.2⟩ hl hm H locs lsC hP hD hS hv
  rw [i32_nat hi.1 hs.1, Int.toNat_of_nonneg hi.1]
  exact h
theorem o_slen (C : Cx p R s0 m args c cc own nL A G sc xs L kc ks) {pc : Nat} {τs τl : List Nat} {st ls : List Int} {s : Mem} {a : Int} (hd : decode cc pc = .ok (.arraylength, 1)) (k : Wd p l e R s0 m args below meth c Q A G nL sc kc ks (pc + 1) (0 :: τs) τl (L :: st) ls s) : Wd p l e R s0 m args below meth c Q A G nL sc kc ks pc (7 :: τs) τl (a :: st) ls s := by
  intro hs hl hm H locs lsC hP hD hS hv
  have h7 : sc := hs.1
  obtain ⟨Ln, hLn, hX, hb, hA, hin, hx⟩ := C.2.2.1 h7
  refine va_slen C.1.1 C.1.2.1 hX hb hA hS hd ?_
  have h := k ⟨hin, hs.2⟩ hl hm H locs lsC hP hD hS hv
  unfold stkB at h
  rw [cv0, hLn, Int32.ofInt_eq_ofNat] at h
  exact h
theorem o_gets (C : Cx p R s0 m args c cc own nL A G sc xs L kc ks) {pc : Nat} {τs τl : List Nat} {st ls : List Int} {s : Mem} {idx : Nat} (hd : decode cc pc = .ok (.getstatic idx, 3)) (hlink : Cond.fieldLink own idx "MurmurHall$Tokens" "WORDS" "[J" ∈ lw_g) (k : Wd p l e R s0 m args below meth c Q A G nL sc kc ks (pc + 3) (6 :: τs) τl (0 :: st) ls s) : Wd p l e R s0 m args below meth c Q A G nL sc kc ks pc τs τl st ls s := by
  intro hs hl hm H locs lsC hP hD hS hv
  refine va_gets C.1.1 C.1.2.1 C.2.1.2.1 hS C.1.2.2.2.1 (C.1.2.2.2.2 _ hlink) (fun _ h => h) hd ?_
  exact k ⟨trivial, hs⟩ hl hm H locs lsC hP hD hS hv
theorem o_faload (C : Cx p R s0 m args c cc own nL A G sc xs L kc ks) {pc : Nat} {τs τl : List Nat} {st ls : List Int} {s : Mem} {a i : Int} (hd : decode cc pc = .ok (.laload, 1)) (hi : 0 ≤ i ∧ i < 21) (k : Wd p l e R s0 m args below meth c Q A G nL sc kc ks (pc + 1) (1 :: τs) τl (lget words i.toNat :: st) ls s) : Wd p l e R s0 m args below meth c Q A G nL sc kc ks pc (0 :: 6 :: τs) τl (i :: a :: st) ls s := by
  intro hs hl hm H locs lsC hP hD hS hv
  refine va_tl C.1.1 C.1.2.1 C.2.1.2.2.1 hS (i := Int32.ofInt i) (i32_vin (n := 21) hi.1 hi.2 hs.1) rfl hd ?_
  rw [i32_nat hi.1 hs.1]
  have hw : okv sc 1 (lget words i.toNat) := by
    have := words_ck i.toNat (by omega)
    unfold wordCk at this
    simp only [Bool.and_eq_true, decide_eq_true_eq] at this
    show in64 _; unfold in64; omega
  exact k ⟨hw, hs.2.2⟩ hl hm H locs lsC hP hD hS hv
theorem o_fneg (C : Cx p R s0 m args c cc own nL A G sc xs L kc ks) {pc : Nat} {τs τl : List Nat} {st ls : List Int} {s : Mem} {a : Int} (hd : decode cc pc = .ok (.arraylength, 1)) (k : Wd p l e R s0 m args below meth c Q A G nL sc kc ks (pc + 1) (0 :: τs) τl (21 :: st) ls s) : Wd p l e R s0 m args below meth c Q A G nL sc kc ks pc (6 :: τs) τl (a :: st) ls s := by
  intro hs hl hm H locs lsC hP hD hS hv
  refine va_tlen C.1.1 C.1.2.1 C.2.1.2.2.1 hS (v := Int32.ofInt 21) rfl hd ?_
  exact k ⟨(by show in32 21; unfold in32; omega), hs.2⟩ hl hm H locs lsC hP hD hS hv
theorem o_ldcS (C : Cx p R s0 m args c cc own nL A G sc xs L kc ks) {pc : Nat} {τs τl : List Nat} {st ls : List Int} {s : Mem}  (hd : decode cc pc = .ok (.ldc 177, 2)) (hown : own = "MurmurHallModel") (k : Wd p l e R s0 m args below meth c Q A G nL sc kc ks (pc + 2) (5 :: τs) τl (0 :: st) ls s) : Wd p l e R s0 m args below meth c Q A G nL sc kc ks pc τs τl st ls s := by
  intro hs hl hm H locs lsC hP hD hS hv
  subst hown
  refine va_ldcS C.1.1 C.1.2.1 C.1.2.2.2.1 C.2.1.2.2.2.1 hd ?_
  exact k ⟨trivial, hs⟩ hl hm H locs lsC hP hD hS hv
theorem cats_rest {τs : List Nat} {st : List Int} (h : okl sc τs st) (hc : cats τs ≤ 100) : ((stkB G τs st).map fun v => v.category).sum ≤ 100 := by rw [stk_cats τs st h]; exact hc
theorem o_mmax (C : Cx p R s0 m args c cc own nL A G sc xs L kc ks) {pc : Nat} {τs τl : List Nat} {st ls : List Int} {s : Mem} {x y : Int} {idx : Nat} (hd : decode cc pc = .ok (.invokestatic idx, 3)) (hc : cats τs ≤ 100) (h1 : Cond.methodLink own idx Lib.Math.max.name ∈ lw_g) (k : Wd p l e R s0 m args below meth c Q A G nL sc kc ks (pc + 3) (0 :: τs) τl (max x y :: st) ls s) : Wd p l e R s0 m args below meth c Q A G nL sc kc ks pc (0 :: 0 :: τs) τl (y :: x :: st) ls s := by
  intro hs hl hm H locs lsC hP hD hS hv
  have hcr := cats_rest (G := G) hs.2.2 hc
  have h := k ⟨(show in32 _ by have := hs.1.1; have := hs.1.2; have := hs.2.1.1; have := hs.2.1.2; unfold in32; omega), hs.2.2⟩ hl hm H locs lsC hP hD hS hv
  have hlo := C.2.2.2.2.1
  refine va_mmax C.1.1 C.1.2.1 (C.1.2.2.1.trans hv.1.symm) C.1.2.2.2.1 (C.1.2.2.2.2 _ h1) (C.1.2.2.2.2 _ math_max.1) (C.1.2.2.2.2 _ math_init) (C.1.2.2.2.2 _ math_max.2) C.2.2.2.1 (by omega) C.2.2.2.2.2.1 C.2.2.2.2.2.2 hd ?_
  unfold stkB at h
  rw [cv0, ← i32_max hs.2.1 hs.1] at h
  exact h
theorem o_mmin (C : Cx p R s0 m args c cc own nL A G sc xs L kc ks) {pc : Nat} {τs τl : List Nat} {st ls : List Int} {s : Mem} {x y : Int} {idx : Nat} (hd : decode cc pc = .ok (.invokestatic idx, 3)) (hc : cats τs ≤ 100) (h1 : Cond.methodLink own idx Lib.Math.min.name ∈ lw_g) (k : Wd p l e R s0 m args below meth c Q A G nL sc kc ks (pc + 3) (0 :: τs) τl (min x y :: st) ls s) : Wd p l e R s0 m args below meth c Q A G nL sc kc ks pc (0 :: 0 :: τs) τl (y :: x :: st) ls s := by
  intro hs hl hm H locs lsC hP hD hS hv
  have hcr := cats_rest (G := G) hs.2.2 hc
  have h := k ⟨(show in32 _ by have := hs.1.1; have := hs.1.2; have := hs.2.1.1; have := hs.2.1.2; unfold in32; omega), hs.2.2⟩ hl hm H locs lsC hP hD hS hv
  have hlo := C.2.2.2.2.1
  refine va_mmin C.1.1 C.1.2.1 (C.1.2.2.1.trans hv.1.symm) C.1.2.2.2.1 (C.1.2.2.2.2 _ h1) (C.1.2.2.2.2 _ math_min.1) (C.1.2.2.2.2 _ math_init) (C.1.2.2.2.2 _ math_min.2) C.2.2.2.1 (by omega) C.2.2.2.2.2.1 C.2.2.2.2.2.2 hd ?_
  unfold stkB at h
  rw [cv0, ← i32_min hs.2.1 hs.1] at h
  exact h
theorem o_mabs (C : Cx p R s0 m args c cc own nL A G sc xs L kc ks) {pc : Nat} {τs τl : List Nat} {st ls : List Int} {s : Mem} {x : Int} {idx : Nat} (hd : decode cc pc = .ok (.invokestatic idx, 3)) (hc : cats τs ≤ 100) (h1 : Cond.methodLink own idx Lib.Math.abs.name ∈ lw_g) (k : Wd p l e R s0 m args below meth c Q A G nL sc kc ks (pc + 3) (0 :: τs) τl (wr (if x < 0 then -x else x) :: st) ls s) : Wd p l e R s0 m args below meth c Q A G nL sc kc ks pc (0 :: τs) τl (x :: st) ls s := by
  intro hs hl hm H locs lsC hP hD hS hv
  have hcr := cats_rest (G := G) hs.2 hc
  have h := k ⟨wr_in _, hs.2⟩ hl hm H locs lsC hP hD hS hv
  have hlo := C.2.2.2.2.1
  refine va_mabs C.1.1 C.1.2.1 (C.1.2.2.1.trans hv.1.symm) C.1.2.2.2.1 (C.1.2.2.2.2 _ h1) (C.1.2.2.2.2 _ math_abs.1) (C.1.2.2.2.2 _ math_init) (C.1.2.2.2.2 _ math_abs.2) C.2.2.2.1 (by omega) C.2.2.2.2.2.1 C.2.2.2.2.2.2 hd ?_
  unfold stkB at h
  rw [cv0, ← i32_abs hs.1] at h
  exact h
end Sim
