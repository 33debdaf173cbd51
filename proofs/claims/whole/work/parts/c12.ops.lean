/-! ===== the context of a method's body, and one row for each operation: the machine follows the abstract machine (wip/gen/mk12.py) ===== -/
def lw_g : List Cond := lw_tbl.filter goodWord
def nest1 : Cond := .methodLinkNest "MurmurHall" 22 ⟨"MurmurHall$Trays", "<init>", "()V"⟩ "MurmurHall"
def kText : String := " odds place way slate caller cry call long loses at say hush walk record any when loop end stop heard calls "
def kBytes : List Int32 := keys.map Int32.ofInt
/-- what stays as it is and is read: the tables' classes, the words' row, the word list's text -/
def Wf (G : WG) (A : Nat → Prop) (U : State) (H : Heap) : Prop := va_K (gD G) classes (gT G) U ∧ va_Z "MurmurHall$Tokens" "WORDS" "[J" (.ref (gW G)) A U H ∧ va_T .long (gW G) 21 (fun j => .long (Int64.ofInt (lget words j))) A U H ∧ vk_R "MurmurHallModel" 177 kText (gS G) U ∧ vk_S 1 [108] [kBytes] (fun _ => gS G) (fun _ => gV G) A U H ∧ va_Nw nest1 U ∧ va_Z "java/lang/String" "COMPACT_STRINGS" "Z" (.int 1) A U H ∧ va_Zq "jdk/internal/util/Preconditions" "SIOOBE_FORMATTER" "Ljava/util/function/BiFunction;" A U H
theorem Zq.kept {C n d : String} {A : Nat → Prop} {U : State} {H H1 : Heap} (h : va_Zq C n d A U H) (hq : ∀ a : Nat, a < H.size → ¬ A a → H1[a]? = H[a]?) : va_Zq C n d A U H1 := by
  rcases h with h | ⟨t, h⟩
  · exact Or.inl (h.kept hq)
  · exact Or.inr ⟨t, h.kept hq⟩
theorem Zq.moved {C n d : String} {A : Nat → Prop} {u U : State} {H : Heap} (ha : u.vm.Alike U.vm) (h : va_Zq C n d A u H) : va_Zq C n d A U H := by
  rcases h with h | ⟨t, h⟩
  · exact Or.inl (va_Z.moved ha h)
  · exact Or.inr ⟨t, va_Z.moved ha h⟩
theorem Wf.kept {G : WG} {A : Nat → Prop} {U : State} {H H1 : Heap} (h : Wf G A U H) (hq : ∀ a : Nat, a < H.size → ¬ A a → H1[a]? = H[a]?) : Wf G A U H1 :=
  ⟨h.1, h.2.1.kept hq, h.2.2.1.kept hq, h.2.2.2.1, h.2.2.2.2.1.kept hq, h.2.2.2.2.2.1, h.2.2.2.2.2.2.1.kept hq, Zq.kept h.2.2.2.2.2.2.2 hq⟩
theorem Wf.warm {G : WG} {A : Nat → Prop} {s U : State} {H : Heap} (hW : s.WarmedH U.vm) (h : Wf G A s H) : Wf G A U H :=
  ⟨va_K.moved hW.alike h.1, va_Z.moved hW.alike h.2.1, va_T.moved hW.alike h.2.2.1, vk_R.warm hW h.2.2.2.1, vk_S.moved hW.alike h.2.2.2.2.1, va_Nw.warmM hW h.2.2.2.2.2.1, va_Z.moved hW.alike h.2.2.2.2.2.2.1, Zq.moved hW.alike h.2.2.2.2.2.2.2⟩
def Cx (p : Program) (R : Room) (s0 : State) (m : MethodId) (args : Array Value) (c : Code) (cc : ByteArray) (own : String) (nL : Nat) (A : Nat → Prop) (G : WG) (sc : Prop) (xs : Int → Int) (L : Int) (kc ks : Nat) : Prop :=
  CallFix p m c cc nL s0 args lw_g own ∧ Wf G A s0 s0.heap ∧ (sc → ∃ Ln : Nat, L = Ln ∧ va_X (gX G) Ln (fun j => Int32.ofInt (xs j)) s0 s0.heap ∧ gX G < s0.heap.size ∧ ¬ A (gX G) ∧ in32 L ∧ ∀ j : Int, in32 (xs j)) ∧ 1 ≤ R.frames ∧ 200 ≤ R.locals ∧ kc ≤ R.cells ∧ ks ≤ R.slots
/-- from any state of the machine that is as the abstract one says, it comes to Q -/
def Wd (p : Program) (l : Launch) (e : Env) (R : Room) (s0 : State) (m : MethodId) (args : Array Value) (below : List Frame) (meth : Method) (c : Code) (Q : State → Prop) (A : Nat → Prop) (G : WG) (nL : Nat) (sc : Prop) (kc ks : Nat) (pc : Nat) (τs τl : List Nat) (st ls : List Int) (s : Mem) : Prop :=
  okl sc τs st → okl sc τl ls → okm s → ∀ (H : Heap) (locs : List Loc) (lsC : Array Slot), va_P (gD G) classes (wld G s) H → va_D A (wld G s) → va_S A s0.heap H locs → lv_has lsC nL (lvL G 0 τl ls) → W p l e R s0 m args below meth c H locs kc ks Q (F0 m pc lsC (stkB G τs st))
theorem cv0 {G : WG} {v : Int} : cv G 0 v = .int (Int32.ofInt v) := rfl
theorem cv1 {G : WG} {v : Int} : cv G 1 v = .long (Int64.ofInt v) := rfl
theorem cvr {G : WG} {t : Nat} {v : Int} (h : t = 2 ∨ t = 3 ∨ t = 4 ∨ (10 ≤ t ∧ t < 99)) : cv G t v = .ref (ga G v.toNat) := by
  unfold cv; rw [if_neg (by omega), if_neg (by omega), if_neg (by omega), if_neg (by omega), if_neg (by omega)]
theorem okvr {sc : Prop} {t : Nat} {v : Int} (h : t = 2 ∨ t = 3 ∨ t = 4 ∨ (10 ≤ t ∧ t < 99)) : okv sc t v ↔ 0 ≤ v ∧ v < 155 ∧ cty v.toNat = t := by
  unfold okv; rw [if_neg (by omega), if_neg (by omega), if_neg (by omega), if_neg (by omega)]
theorem cvref {G : WG} {t : Nat} {v : Int} (h : t ≠ 0 ∧ t ≠ 1) : ∃ q, cv G t v = .ref q := by
  unfold cv; rw [if_neg h.1, if_neg h.2]; exact ⟨_, rfl⟩
theorem cv_cat {G : WG} {t : Nat} {v : Int} : (cv G t v).category = if t = 1 then 2 else 1 := by
  unfold cv
  by_cases h0 : t = 0
  · subst h0; rfl
  · rw [if_neg h0]
    by_cases h1 : t = 1
    · subst h1; rfl
    · rw [if_neg h1, if_neg h1]; rfl
def cats (τs : List Nat) : Nat := (τs.map fun t => if t = 1 then 2 else 1).sum
theorem stk_cats {G : WG} {sc : Prop} : ∀ (τs : List Nat) (st : List Int), okl sc τs st → ((stkB G τs st).map fun v => v.category).sum = cats τs
  | [], [], _ => rfl
  | t :: ts, v :: vs, h => by
    unfold stkB cats
    rw [List.map_cons, List.map_cons, List.sum_cons, List.sum_cons, cv_cat, stk_cats ts vs h.2]; rfl
  | [], _ :: _, h => h.elim
  | _ :: _, [], h => h.elim
theorem lvL_mem {G : WG} {q : Nat × Value} : ∀ (τl : List Nat) (ls : List Int) (i : Nat), q ∈ lvL G i τl ls ↔ ∃ n t v, q.1 = i + n ∧ τl[n]? = some t ∧ ls[n]? = some v ∧ t ≠ 99 ∧ q.2 = cv G t v
  | [], ls, i => by
    refine ⟨fun h => ?_, fun ⟨n, t, v, _, h, _⟩ => by simp at h⟩
    unfold lvL at h; cases h
  | t :: ts, [], i => by
    refine ⟨fun h => ?_, fun ⟨n, t, v, _, _, h, _⟩ => by simp at h⟩
    unfold lvL at h; cases h
  | t :: ts, v :: vs, i => by
    have ih := lvL_mem (G := G) (q := q) ts vs (i + 1)
    have step : (∃ n t' v', q.1 = i + n ∧ (t :: ts)[n]? = some t' ∧ (v :: vs)[n]? = some v' ∧ t' ≠ 99 ∧ q.2 = cv G t' v') ↔ ((q.1 = i ∧ t ≠ 99 ∧ q.2 = cv G t v) ∨ ∃ n t' v', q.1 = i + 1 + n ∧ ts[n]? = some t' ∧ vs[n]? = some v' ∧ t' ≠ 99 ∧ q.2 = cv G t' v') := by
      constructor
      · rintro ⟨n, t', v', h1, h2, h3, h4, h5⟩
        cases n with
        | zero => cases h2; cases h3; exact Or.inl ⟨h1, h4, h5⟩
        | succ n => exact Or.inr ⟨n, t', v', by omega, by simpa using h2, by simpa using h3, h4, h5⟩
      · rintro (⟨h1, h4, h5⟩ | ⟨n, t', v', h1, h2, h3, h4, h5⟩)
        · exact ⟨0, t, v, h1, rfl, rfl, h4, h5⟩
        · exact ⟨n + 1, t', v', by omega, by simpa using h2, by simpa using h3, h4, h5⟩
    rw [step, ← ih]
    show q ∈ (if t = 99 then lvL G (i + 1) ts vs else (i, cv G t v) :: lvL G (i + 1) ts vs) ↔ _
    by_cases h : t = 99
    · rw [if_pos h]
      exact ⟨Or.inr, fun z => z.elim (fun y => absurd h y.2.1) id⟩
    · rw [if_neg h, List.mem_cons]
      refine ⟨fun z => z.elim (fun y => Or.inl ⟨by rw [y], h, by rw [y]⟩) Or.inr, fun z => z.elim (fun y => Or.inl ?_) Or.inr⟩
      exact Prod.ext y.1 y.2.2
theorem okl_len {sc : Prop} : ∀ (τl : List Nat) (ls : List Int), okl sc τl ls → τl.length = ls.length
  | [], [], _ => rfl
  | _ :: ts, _ :: vs, h => by rw [List.length_cons, List.length_cons, okl_len ts vs h.2]
  | [], _ :: _, h => h.elim
  | _ :: _, [], h => h.elim
theorem okl_get {sc : Prop} : ∀ (τl : List Nat) (ls : List Int) (k t : Nat), okl sc τl ls → τl[k]? = some t → ls[k]? = some (lget ls k) ∧ okv sc t (lget ls k)
  | [], [], k, t, _, h => by simp at h
  | t0 :: ts, v :: vs, 0, t, h, ht => by cases ht; exact ⟨rfl, h.1⟩
  | t0 :: ts, v :: vs, k + 1, t, h, ht => by
    obtain ⟨a, b⟩ := okl_get ts vs k t h.2 (by simpa using ht)
    exact ⟨by rw [List.getElem?_cons_succ]; exact a, b⟩
  | [], _ :: _, _, _, h, _ => h.elim
  | _ :: _, [], _, _, h, _ => h.elim
theorem lget_of {ls : List Int} {k : Nat} {v : Int} (h : ls[k]? = some v) : lget ls k = v := by
  induction ls generalizing k with
  | nil => simp at h
  | cons a r ih =>
    cases k with
    | zero => cases h; rfl
    | succ k => exact ih (by simpa using h)
theorem lset_set : ∀ (ls : List Int) (k : Nat) (x : Int), lset ls k x = ls.set k x
  | [], _, _ => rfl
  | _ :: _, 0, _ => rfl
  | a :: r, k + 1, x => by unfold lset; rw [lset_set r k x]; rfl
theorem okl_set {sc : Prop} : ∀ (τl : List Nat) (ls : List Int) (k t : Nat) (x : Int), okl sc τl ls → okv sc t x → okl sc (τl.set k t) (ls.set k x)
  | [], [], _, _, _, h, _ => h
  | t0 :: ts, v :: vs, 0, t, x, h, hx => ⟨hx, h.2⟩
  | t0 :: ts, v :: vs, k + 1, t, x, h, hx => ⟨h.1, okl_set ts vs k t x h.2 hx⟩
  | [], _ :: _, _, _, _, h, _ => h.elim
  | _ :: _, [], _, _, _, h, _ => h.elim
theorem okv99 {sc : Prop} {v : Int} : okv sc 99 v := by unfold okv; simp
theorem okl_un {sc : Prop} : ∀ (τl : List Nat) (ls : List Int) (k : Nat), okl sc τl ls → okl sc (τl.set k 99) ls
  | [], [], _, h => h
  | t0 :: ts, v :: vs, 0, h => ⟨okv99, h.2⟩
  | t0 :: ts, v :: vs, k + 1, h => ⟨h.1, okl_un ts vs k h.2⟩
  | [], _ :: _, _, h => h.elim
  | _ :: _, [], _, h => h.elim
/-- the locals' types behind a store -/
def stA (τl : List Nat) (k : Nat) : List Nat := if k ≠ 0 ∧ τl[k - 1]? = some 1 then τl.set (k - 1) 99 else τl
theorem okl_stA {sc : Prop} {τl : List Nat} {ls : List Int} {k : Nat} (h : okl sc τl ls) : okl sc (stA τl k) ls := by
  unfold stA; split
  · exact okl_un _ _ _ h
  · exact h
theorem stA_get {τl : List Nat} {k n t : Nat} (h : (stA τl k)[n]? = some t) (h9 : t ≠ 99) : τl[n]? = some t ∧ ¬ (n + 1 = k ∧ t = 1) := by
  unfold stA at h
  split at h
  · rename_i hc
    rw [List.getElem?_set] at h
    by_cases hn : k - 1 = n
    · rw [if_pos hn] at h
      split at h
      · cases h; exact absurd rfl h9
      · cases h
    · rw [if_neg hn] at h
      exact ⟨h, fun z => hn (by omega)⟩
  · rename_i hc
    refine ⟨h, fun z => hc ⟨by omega, ?_⟩⟩
    rw [show k - 1 = n by omega, h, z.2]
/-- fewer types: what a block's start says is less than what is known -/
def wkB : List Nat → List Nat → Bool
  | [], [] => true
  | a :: as, b :: bs => (b == 99 || a == b) && wkB as bs
  | _, _ => false
theorem wk_okl {sc : Prop} : ∀ (a b : List Nat) (ls : List Int), wkB a b = true → okl sc a ls → okl sc b ls
  | [], [], _, _, h => h
  | a :: as, b :: bs, [], _, h => h.elim
  | a :: as, b :: bs, v :: vs, hw, h => by
    unfold wkB at hw
    rw [Bool.and_eq_true, Bool.or_eq_true, beq_iff_eq, beq_iff_eq] at hw
    refine ⟨?_, wk_okl as bs vs hw.2 h.2⟩
    rcases hw.1 with h1 | h1
    · rw [h1]; exact okv99
    · rw [← h1]; exact h.1
  | [], _ :: _, _, hw, _ => by unfold wkB at hw; cases hw
  | _ :: _, [], _, hw, _ => by unfold wkB at hw; cases hw
theorem wk_get : ∀ (a b : List Nat) (n t : Nat), wkB a b = true → b[n]? = some t → t ≠ 99 → a[n]? = some t
  | [], [], n, t, _, h, _ => by simp at h
  | a :: as, b :: bs, 0, t, hw, h, h9 => by
    unfold wkB at hw
    rw [Bool.and_eq_true, Bool.or_eq_true, beq_iff_eq, beq_iff_eq] at hw
    cases h
    rcases hw.1 with h1 | h1
    · exact absurd h1 h9
    · rw [h1]; rfl
  | a :: as, b :: bs, n + 1, t, hw, h, h9 => by
    unfold wkB at hw
    rw [Bool.and_eq_true] at hw
    rw [List.getElem?_cons_succ]
    exact wk_get as bs n t hw.2 (by simpa using h) h9
  | [], _ :: _, _, _, hw, _, _ => by unfold wkB at hw; cases hw
  | _ :: _, [], _, _, hw, _, _ => by unfold wkB at hw; cases hw
theorem lv_mono {ls : Array Slot} {nL : Nat} {a b : List (Nat × Value)} (h : lv_has ls nL a) (hs : ∀ q ∈ b, q ∈ a) : lv_has ls nL b := ⟨h.1, h.2.1, fun q hq => h.2.2 q (hs q hq)⟩
section Sim
variable {p : Program} {l : Launch} {e : Env} {R : Room} {s0 : State} {m : MethodId} {args : Array Value} {below : List Frame} {meth : Method} {c : Code} {Q : State → Prop} {cc : ByteArray} {own : String} {nL : Nat} {A : Nat → Prop} {G : WG} {sc : Prop} {xs : Int → Int} {L : Int} {kc ks : Nat}
theorem o_wk {pc : Nat} {τs τl τl' : List Nat} {st ls : List Int} {s : Mem} (hw : wkB τl τl' = true) (k : Wd p l e R s0 m args below meth c Q A G nL sc kc ks pc τs τl' st ls s) : Wd p l e R s0 m args below meth c Q A G nL sc kc ks pc τs τl st ls s := by
  intro hs hl hm H locs lsC hP hD hS hv
  refine k hs (wk_okl _ _ _ hw hl) hm H locs lsC hP hD hS (lv_mono hv fun q hq => ?_)
  rw [lvL_mem] at hq ⊢
  obtain ⟨n, t, v, h1, h2, h3, h4, h5⟩ := hq
  exact ⟨n, t, v, h1, wk_get _ _ _ _ hw h2 h4, h3, h4, h5⟩
theorem o_iconst (C : Cx p R s0 m args c cc own nL A G sc xs L kc ks) {pc : Nat} {τs τl : List Nat} {st ls : List Int} {s : Mem} {v : Int} (hd : decode cc pc = .ok (.iconst v, 1)) (h3 : in32 v) (k : Wd p l e R s0 m args below meth c Q A G nL sc kc ks (pc + 1) (0 :: τs) τl (v :: st) ls s) : Wd p l e R s0 m args below meth c Q A G nL sc kc ks pc τs τl st ls s := by
  intro hs hl hm H locs lsC hP hD hS hv
  refine lv_iconst (v := Int32.ofInt v) C.1.1 C.1.2.1 hd rfl ?_
  exact k ⟨h3, hs⟩ hl hm H locs lsC hP hD hS hv
theorem o_bipush (C : Cx p R s0 m args c cc own nL A G sc xs L kc ks) {pc : Nat} {τs τl : List Nat} {st ls : List Int} {s : Mem} {v : Int} (hd : decode cc pc = .ok (.bipush v, 2)) (h3 : in32 v) (h4 : (Int8.ofInt v).toInt32 = Int32.ofInt v) (k : Wd p l e R s0 m args below meth c Q A G nL sc kc ks (pc + 2) (0 :: τs) τl (v :: st) ls s) : Wd p l e R s0 m args below meth c Q A G nL sc kc ks pc τs τl st ls s := by
  intro hs hl hm H locs lsC hP hD hS hv
  refine lv_bipush (v := Int32.ofInt v) C.1.1 C.1.2.1 hd h4 ?_
  exact k ⟨h3, hs⟩ hl hm H locs lsC hP hD hS hv
theorem o_sipush (C : Cx p R s0 m args c cc own nL A G sc xs L kc ks) {pc : Nat} {τs τl : List Nat} {st ls : List Int} {s : Mem} {v : Int} (hd : decode cc pc = .ok (.sipush v, 3)) (h3 : in32 v) (h4 : (Int16.ofInt v).toInt32 = Int32.ofInt v) (k : Wd p l e R s0 m args below meth c Q A G nL sc kc ks (pc + 3) (0 :: τs) τl (v :: st) ls s) : Wd p l e R s0 m args below meth c Q A G nL sc kc ks pc τs τl st ls s := by
  intro hs hl hm H locs lsC hP hD hS hv
  refine lv_sipush (v := Int32.ofInt v) C.1.1 C.1.2.1 hd h4 ?_
  exact k ⟨h3, hs⟩ hl hm H locs lsC hP hD hS hv
theorem o_ldc (C : Cx p R s0 m args c cc own nL A G sc xs L kc ks) {pc : Nat} {τs τl : List Nat} {st ls : List Int} {s : Mem} {v : Int} {i : Nat} (hd : decode cc pc = .ok (.ldc i, 2)) (h3 : in32 v) (h4 : Cond.constant own i (Int32.ofInt v) ∈ lw_g) (k : Wd p l e R s0 m args below meth c Q A G nL sc kc ks (pc + 2) (0 :: τs) τl (v :: st) ls s) : Wd p l e R s0 m args below meth c Q A G nL sc kc ks pc τs τl st ls s := by
  intro hs hl hm H locs lsC hP hD hS hv
  refine lv_ldc (v := Int32.ofInt v) C.1.1 C.1.2.1 C.1.2.2.2.1 (C.1.2.2.2.2 _ h4) hd ?_
  exact k ⟨h3, hs⟩ hl hm H locs lsC hP hD hS hv
theorem o_ldcw (C : Cx p R s0 m args c cc own nL A G sc xs L kc ks) {pc : Nat} {τs τl : List Nat} {st ls : List Int} {s : Mem} {v : Int} {i : Nat} (hd : decode cc pc = .ok (.ldc_w i, 3)) (h3 : in32 v) (h4 : Cond.constant own i (Int32.ofInt v) ∈ lw_g) (k : Wd p l e R s0 m args below meth c Q A G nL sc kc ks (pc + 3) (0 :: τs) τl (v :: st) ls s) : Wd p l e R s0 m args below meth c Q A G nL sc kc ks pc τs τl st ls s := by
  intro hs hl hm H locs lsC hP hD hS hv
  refine lv_ldcw (v := Int32.ofInt v) C.1.1 C.1.2.1 C.1.2.2.2.1 (C.1.2.2.2.2 _ h4) hd ?_
  exact k ⟨h3, hs⟩ hl hm H locs lsC hP hD hS hv
theorem o_lconst (C : Cx p R s0 m args c cc own nL A G sc xs L kc ks) {pc : Nat} {τs τl : List Nat} {st ls : List Int} {s : Mem} {v : Int} {n : Fin 2} (hd : decode cc pc = .ok (.lconst n, 1)) (h3 : in64 v) (h4 : Int64.ofNat (n : Nat) = Int64.ofInt v) (k : Wd p l e R s0 m args below meth c Q A G nL sc kc ks (pc + 1) (1 :: τs) τl (v :: st) ls s) : Wd p l e R s0 m args below meth c Q A G nL sc kc ks pc τs τl st ls s := by
  intro hs hl hm H locs lsC hP hD hS hv
  refine lv_lconst (v := Int64.ofInt v) C.1.1 C.1.2.1 hd h4 ?_
  exact k ⟨h3, hs⟩ hl hm H locs lsC hP hD hS hv
theorem o_ldc2 (C : Cx p R s0 m args c cc own nL A G sc xs L kc ks) {pc : Nat} {τs τl : List Nat} {st ls : List Int} {s : Mem} {v : Int} {i : Nat} (hd : decode cc pc = .ok (.ldc2_w i, 3)) (h3 : in64 v) (h4 : Cond.constantLong own i (Int64.ofInt v) ∈ lw_g) (k : Wd p l e R s0 m args below meth c Q A G nL sc kc ks (pc + 3) (1 :: τs) τl (v :: st) ls s) : Wd p l e R s0 m args below meth c Q A G nL sc kc ks pc τs τl st ls s := by
  intro hs hl hm H locs lsC hP hD hS hv
  refine W.ldc2 (v := Int64.ofInt v) C.1.1 C.1.2.1 C.1.2.2.2.1 (C.1.2.2.2.2 _ h4) rfl hd ?_
  exact k ⟨h3, hs⟩ hl hm H locs lsC hP hD hS hv
theorem o_iload_n (C : Cx p R s0 m args c cc own nL A G sc xs L kc ks) {pc : Nat} {τs τl : List Nat} {st ls : List Int} {s : Mem} {j : Nat} {n : Fin 4} (hd : decode cc pc = .ok (.iload_n n, 1)) (hn : (n : Nat) = j) (ht : τl[j]? = some 0) (k : Wd p l e R s0 m args below meth c Q A G nL sc kc ks (pc + 1) (0 :: τs) τl (lget ls j :: st) ls s) : Wd p l e R s0 m args below meth c Q A G nL sc kc ks pc τs τl st ls s := by
  intro hs hl hm H locs lsC hP hD hS hv
  obtain ⟨a, b⟩ := okl_get _ _ _ _ hl ht
  have hg := hv.2.2 (j, cv G 0 (lget ls j)) ((lvL_mem _ _ _).mpr ⟨j, 0, lget ls j, by simp, ht, a, by decide, rfl⟩)
  refine lv_iload_n C.1.1 C.1.2.1 hd hn hg ?_
  exact k ⟨b, hs⟩ hl hm H locs lsC hP hD hS hv
theorem o_iload (C : Cx p R s0 m args c cc own nL A G sc xs L kc ks) {pc : Nat} {τs τl : List Nat} {st ls : List Int} {s : Mem} {j : Nat} (hd : decode cc pc = .ok (.iload j, 2)) (ht : τl[j]? = some 0) (k : Wd p l e R s0 m args below meth c Q A G nL sc kc ks (pc + 2) (0 :: τs) τl (lget ls j :: st) ls s) : Wd p l e R s0 m args below meth c Q A G nL sc kc ks pc τs τl st ls s := by
  intro hs hl hm H locs lsC hP hD hS hv
  obtain ⟨a, b⟩ := okl_get _ _ _ _ hl ht
  have hg := hv.2.2 (j, cv G 0 (lget ls j)) ((lvL_mem _ _ _).mpr ⟨j, 0, lget ls j, by simp, ht, a, by decide, rfl⟩)
  refine lv_iload C.1.1 C.1.2.1 hd hg ?_
  exact k ⟨b, hs⟩ hl hm H locs lsC hP hD hS hv
theorem o_lload_n (C : Cx p R s0 m args c cc own nL A G sc xs L kc ks) {pc : Nat} {τs τl : List Nat} {st ls : List Int} {s : Mem} {j : Nat} {n : Fin 4} (hd : decode cc pc = .ok (.lload_n n, 1)) (hn : (n : Nat) = j) (ht : τl[j]? = some 1) (k : Wd p l e R s0 m args below meth c Q A G nL sc kc ks (pc + 1) (1 :: τs) τl (lget ls j :: st) ls s) : Wd p l e R s0 m args below meth c Q A G nL sc kc ks pc τs τl st ls s := by
  intro hs hl hm H locs lsC hP hD hS hv
  obtain ⟨a, b⟩ := okl_get _ _ _ _ hl ht
  have hg := hv.2.2 (j, cv G 1 (lget ls j)) ((lvL_mem _ _ _).mpr ⟨j, 1, lget ls j, by simp, ht, a, by decide, rfl⟩)
  refine lv_lload_n C.1.1 C.1.2.1 hd hn hg ?_
  exact k ⟨b, hs⟩ hl hm H locs lsC hP hD hS hv
theorem o_lload (C : Cx p R s0 m args c cc own nL A G sc xs L kc ks) {pc : Nat} {τs τl : List Nat} {st ls : List Int} {s : Mem} {j : Nat} (hd : decode cc pc = .ok (.lload j, 2)) (ht : τl[j]? = some 1) (k : Wd p l e R s0 m args below meth c Q A G nL sc kc ks (pc + 2) (1 :: τs) τl (lget ls j :: st) ls s) : Wd p l e R s0 m args below meth c Q A G nL sc kc ks pc τs τl st ls s := by
  intro hs hl hm H locs lsC hP hD hS hv
  obtain ⟨a, b⟩ := okl_get _ _ _ _ hl ht
  have hg := hv.2.2 (j, cv G 1 (lget ls j)) ((lvL_mem _ _ _).mpr ⟨j, 1, lget ls j, by simp, ht, a, by decide, rfl⟩)
  refine lv_lload C.1.1 C.1.2.1 hd hg ?_
  exact k ⟨b, hs⟩ hl hm H locs lsC hP hD hS hv
theorem o_aload_n (C : Cx p R s0 m args c cc own nL A G sc xs L kc ks) {pc : Nat} {τs τl : List Nat} {st ls : List Int} {s : Mem} {j t : Nat} {n : Fin 4} (hd : decode cc pc = .ok (.aload_n n, 1)) (hn : (n : Nat) = j) (ht : τl[j]? = some t) (h9 : t ≠ 0 ∧ t ≠ 1 ∧ t ≠ 99) (k : Wd p l e R s0 m args below meth c Q A G nL sc kc ks (pc + 1) (t :: τs) τl (lget ls j :: st) ls s) : Wd p l e R s0 m args below meth c Q A G nL sc kc ks pc τs τl st ls s := by
  intro hs hl hm H locs lsC hP hD hS hv
  obtain ⟨a, b⟩ := okl_get _ _ _ _ hl ht
  have hg := hv.2.2 (j, cv G t (lget ls j)) ((lvL_mem _ _ _).mpr ⟨j, t, lget ls j, by simp, ht, a, h9.2.2, rfl⟩)
  obtain ⟨q, hq⟩ := cvref (G := G) (v := lget ls j) ⟨h9.1, h9.2.1⟩
  dsimp only at hg
  rw [hq] at hg
  refine lv_aload_n C.1.1 C.1.2.1 hd hn hg ?_
  have := k ⟨b, hs⟩ hl hm H locs lsC hP hD hS hv
  unfold stkB at this
  rw [hq] at this
  exact this
theorem o_aload (C : Cx p R s0 m args c cc own nL A G sc xs L kc ks) {pc : Nat} {τs τl : List Nat} {st ls : List Int} {s : Mem} {j t : Nat} (hd : decode cc pc = .ok (.aload j, 2)) (ht : τl[j]? = some t) (h9 : t ≠ 0 ∧ t ≠ 1 ∧ t ≠ 99) (k : Wd p l e R s0 m args below meth c Q A G nL sc kc ks (pc + 2) (t :: τs) τl (lget ls j :: st) ls s) : Wd p l e R s0 m args below meth c Q A G nL sc kc ks pc τs τl st ls s := by
  intro hs hl hm H locs lsC hP hD hS hv
  obtain ⟨a, b⟩ := okl_get _ _ _ _ hl ht
  have hg := hv.2.2 (j, cv G t (lget ls j)) ((lvL_mem _ _ _).mpr ⟨j, t, lget ls j, by simp, ht, a, h9.2.2, rfl⟩)
  obtain ⟨q, hq⟩ := cvref (G := G) (v := lget ls j) ⟨h9.1, h9.2.1⟩
  dsimp only at hg
  rw [hq] at hg
  refine lv_aload C.1.1 C.1.2.1 hd hg ?_
  have := k ⟨b, hs⟩ hl hm H locs lsC hP hD hS hv
  unfold stkB at this
  rw [hq] at this
  exact this
theorem lvL_st {τl : List Nat} {ls : List Int} {j t : Nat} {x : Int} {lsC : Array Slot} (hj : τl[j]?.isSome) (h1 : t ≠ 1) (hl : okl sc τl ls) (h : lv_has lsC nL ((j, cv G t x) :: (lvL G 0 τl ls).filter (fun q => !(q.1 == j) && !(q.1 + 1 == j && q.2.category == 2)))) : lv_has lsC nL (lvL G 0 ((stA τl j).set j t) (lset ls j x)) := by
  refine lv_mono h fun q hq => ?_
  rw [lvL_mem] at hq
  obtain ⟨n, t', v, e1, e2, e3, e4, e5⟩ := hq
  rw [lset_set] at e3
  rw [List.getElem?_set] at e2 e3
  rw [Nat.zero_add] at e1
  by_cases hn : j = n
  · subst hn
    rw [if_pos rfl] at e2 e3
    split at e2
    · split at e3
      · cases e2; cases e3
        exact List.mem_cons.mpr (Or.inl (Prod.ext e1 e5))
      · cases e3
    · cases e2
  · rw [if_neg hn] at e2 e3
    obtain ⟨g1, g2⟩ := stA_get e2 e4
    refine List.mem_cons.mpr (Or.inr (List.mem_filter.mpr ⟨(lvL_mem _ _ _).mpr ⟨n, t', v, by omega, g1, e3, e4, e5⟩, ?_⟩))
    rw [e5, cv_cat, e1]
    simp only [Bool.and_eq_true, Bool.not_eq_true', beq_eq_false_iff_ne, ne_eq, Bool.and_eq_false_iff]
    refine ⟨fun z => hn z.symm, ?_⟩
    by_cases h2 : n + 1 = j
    · right
      rw [if_neg (fun z => g2 ⟨h2, z⟩)]; decide
    · exact Or.inl h2
theorem lvL_st2 {τl : List Nat} {ls : List Int} {j : Nat} {x : Int} {lsC : Array Slot} (hl : okl sc τl ls) (h : lv_has lsC nL ((j, cv G 1 x) :: (lvL G 0 τl ls).filter (fun q => !(q.1 == j) && (!(q.1 == j + 1) && !(q.1 + 1 == j && q.2.category == 2))))) : lv_has lsC nL (lvL G 0 (((stA τl j).set j 1).set (j + 1) 99) (lset ls j x)) := by
  refine lv_mono h fun q hq => ?_
  rw [lvL_mem] at hq
  obtain ⟨n, t', v, e1, e2, e3, e4, e5⟩ := hq
  rw [lset_set] at e3
  rw [Nat.zero_add] at e1
  rw [List.getElem?_set] at e2 e3
  by_cases hn1 : j + 1 = n
  · rw [if_pos hn1] at e2
    split at e2
    · cases e2; exact absurd rfl e4
    · cases e2
  · rw [if_neg hn1, List.getElem?_set] at e2
    by_cases hn : j = n
    · subst hn
      rw [if_pos rfl] at e2 e3
      split at e2
      · split at e3
        · cases e2; cases e3
          exact List.mem_cons.mpr (Or.inl (Prod.ext e1 e5))
        · cases e3
      · cases e2
    · rw [if_neg hn] at e2 e3
      obtain ⟨g1, g2⟩ := stA_get e2 e4
      refine List.mem_cons.mpr (Or.inr (List.mem_filter.mpr ⟨(lvL_mem _ _ _).mpr ⟨n, t', v, by omega, g1, e3, e4, e5⟩, ?_⟩))
      rw [e5, cv_cat, e1]
      simp only [Bool.and_eq_true, Bool.not_eq_true', beq_eq_false_iff_ne, ne_eq, Bool.and_eq_false_iff]
      refine ⟨fun z => hn z.symm, fun z => hn1 z.symm, ?_⟩
      by_cases h2 : n + 1 = j
      · right
        rw [if_neg (fun z => g2 ⟨h2, z⟩)]; decide
      · exact Or.inl h2
theorem o_istore_n (C : Cx p R s0 m args c cc own nL A G sc xs L kc ks) {pc : Nat} {τs τl : List Nat} {st ls : List Int} {s : Mem} {j : Nat} {x : Int} {n : Fin 4} (hd : decode cc pc = .ok (.istore_n n, 1)) (hn : (n : Nat) = j) (hj : j < nL) (hj2 : τl[j]?.isSome) (k : Wd p l e R s0 m args below meth c Q A G nL sc kc ks (pc + 1) τs ((stA τl j).set j 0) st (lset ls j x) s) : Wd p l e R s0 m args below meth c Q A G nL sc kc ks pc (0 :: τs) τl (x :: st) ls s := by
  intro hs hl hm H locs lsC hP hD hS hv
  refine lv_istore_n (x := Int32.ofInt x) C.1.1 C.1.2.1 hd hn hv hj rfl (fun ls' hv' => ?_)
  refine k hs.2 ?_ hm H locs ls' hP hD hS (lvL_st hj2 (by decide) hl hv')
  rw [lset_set]; exact okl_set _ _ _ _ _ (okl_stA hl) hs.1
theorem o_lstore_n (C : Cx p R s0 m args c cc own nL A G sc xs L kc ks) {pc : Nat} {τs τl : List Nat} {st ls : List Int} {s : Mem} {j : Nat} {x : Int} {n : Fin 4} (hd : decode cc pc = .ok (.lstore_n n, 1)) (hn : (n : Nat) = j) (hj : j + 1 < nL) (k : Wd p l e R s0 m args below meth c Q A G nL sc kc ks (pc + 1) τs (((stA τl j).set j 1).set (j + 1) 99) st (lset ls j x) s) : Wd p l e R s0 m args below meth c Q A G nL sc kc ks pc (1 :: τs) τl (x :: st) ls s := by
  intro hs hl hm H locs lsC hP hD hS hv
  refine lv_lstore_n (x := Int64.ofInt x) C.1.1 C.1.2.1 hd hn hv hj rfl (fun ls' hv' => ?_)
  refine k hs.2 ?_ hm H locs ls' hP hD hS (lvL_st2 hl hv')
  rw [lset_set]; exact okl_un _ _ _ (okl_set _ _ _ _ _ (okl_stA hl) hs.1)
theorem o_astore_n (C : Cx p R s0 m args c cc own nL A G sc xs L kc ks) {pc : Nat} {τs τl : List Nat} {st ls : List Int} {s : Mem} {j t : Nat} {x : Int} {n : Fin 4} (hd : decode cc pc = .ok (.astore_n n, 1)) (hn : (n : Nat) = j) (hj : j < nL) (hj2 : τl[j]?.isSome) (h9 : t ≠ 0 ∧ t ≠ 1) (k : Wd p l e R s0 m args below meth c Q A G nL sc kc ks (pc + 1) τs ((stA τl j).set j t) st (lset ls j x) s) : Wd p l e R s0 m args below meth c Q A G nL sc kc ks pc (t :: τs) τl (x :: st) ls s := by
  intro hs hl hm H locs lsC hP hD hS hv
  obtain ⟨q, hq⟩ := cvref (G := G) (v := x) h9
  unfold stkB
  rw [hq]
  refine lv_astore_n (x := q) C.1.1 C.1.2.1 hd hn hv hj rfl (fun ls' hv' => ?_)
  refine k hs.2 ?_ hm H locs ls' hP hD hS (lvL_st hj2 h9.2 hl (hq ▸ hv'))
  rw [lset_set]; exact okl_set _ _ _ _ _ (okl_stA hl) hs.1
theorem o_istore (C : Cx p R s0 m args c cc own nL A G sc xs L kc ks) {pc : Nat} {τs τl : List Nat} {st ls : List Int} {s : Mem} {j : Nat} {x : Int} (hd : decode cc pc = .ok (.istore j, 2)) (hj : j < nL) (hj2 : τl[j]?.isSome) (k : Wd p l e R s0 m args below meth c Q A G nL sc kc ks (pc + 2) τs ((stA τl j).set j 0) st (lset ls j x) s) : Wd p l e R s0 m args below meth c Q A G nL sc kc ks pc (0 :: τs) τl (x :: st) ls s := by
  intro hs hl hm H locs lsC hP hD hS hv
  refine lv_istore (x := Int32.ofInt x) C.1.1 C.1.2.1 hd hv hj rfl (fun ls' hv' => ?_)
  refine k hs.2 ?_ hm H locs ls' hP hD hS (lvL_st hj2 (by decide) hl hv')
  rw [lset_set]; exact okl_set _ _ _ _ _ (okl_stA hl) hs.1
theorem o_lstore (C : Cx p R s0 m args c cc own nL A G sc xs L kc ks) {pc : Nat} {τs τl : List Nat} {st ls : List Int} {s : Mem} {j : Nat} {x : Int} (hd : decode cc pc = .ok (.lstore j, 2)) (hj : j + 1 < nL) (k : Wd p l e R s0 m args below meth c Q A G nL sc kc ks (pc + 2) τs (((stA τl j).set j 1).set (j + 1) 99) st (lset ls j x) s) : Wd p l e R s0 m args below meth c Q A G nL sc kc ks pc (1 :: τs) τl (x :: st) ls s := by
  intro hs hl hm H locs lsC hP hD hS hv
  refine lv_lstore (x := Int64.ofInt x) C.1.1 C.1.2.1 hd hv hj rfl (fun ls' hv' => ?_)
  refine k hs.2 ?_ hm H locs ls' hP hD hS (lvL_st2 hl hv')
  rw [lset_set]; exact okl_un _ _ _ (okl_set _ _ _ _ _ (okl_stA hl) hs.1)
theorem o_astore (C : Cx p R s0 m args c cc own nL A G sc xs L kc ks) {pc : Nat} {τs τl : List Nat} {st ls : List Int} {s : Mem} {j t : Nat} {x : Int} (hd : decode cc pc = .ok (.astore j, 2)) (hj : j < nL) (hj2 : τl[j]?.isSome) (h9 : t ≠ 0 ∧ t ≠ 1) (k : Wd p l e R s0 m args below meth c Q A G nL sc kc ks (pc + 2) τs ((stA τl j).set j t) st (lset ls j x) s) : Wd p l e R s0 m args below meth c Q A G nL sc kc ks pc (t :: τs) τl (x :: st) ls s := by
  intro hs hl hm H locs lsC hP hD hS hv
  obtain ⟨q, hq⟩ := cvref (G := G) (v := x) h9
  unfold stkB
  rw [hq]
  refine lv_astore (x := q) C.1.1 C.1.2.1 hd hv hj rfl (fun ls' hv' => ?_)
  refine k hs.2 ?_ hm H locs ls' hP hD hS (lvL_st hj2 h9.2 hl (hq ▸ hv'))
  rw [lset_set]; exact okl_set _ _ _ _ _ (okl_stA hl) hs.1
theorem o_iinc (C : Cx p R s0 m args c cc own nL A G sc xs L kc ks) {pc : Nat} {τs τl : List Nat} {st ls : List Int} {s : Mem} {j : Nat} {n : Int} (hd : decode cc pc = .ok (.iinc j n, 3)) (ht : τl[j]? = some 0) (hj : j < nL) (k : Wd p l e R s0 m args below meth c Q A G nL sc kc ks (pc + 3) τs ((stA τl j).set j 0) st (lset ls j (wr (lget ls j + n))) s) : Wd p l e R s0 m args below meth c Q A G nL sc kc ks pc τs τl st ls s := by
  intro hs hl hm H locs lsC hP hD hS hv
  obtain ⟨a, b⟩ := okl_get _ _ _ _ hl ht
  obtain ⟨i, hi⟩ := List.getElem?_of_mem ((lvL_mem (G := G) (q := (j, cv G 0 (lget ls j))) τl ls 0).mpr ⟨j, 0, lget ls j, by simp, ht, a, by decide, rfl⟩)
  refine lv_iinc (v := Int32.ofInt (wr (lget ls j + n))) C.1.1 C.1.2.1 hd hv hi (i32_add _ _) hj rfl (fun ls' hv' => ?_)
  refine k hs ?_ hm H locs ls' hP hD hS (lvL_st (by rw [ht]; rfl) (by decide) hl hv')
  rw [lset_set]; exact okl_set _ _ _ _ _ (okl_stA hl) (wr_in _)
theorem o_iadd (C : Cx p R s0 m args c cc own nL A G sc xs L kc ks) {pc : Nat} {τs τl : List Nat} {st ls : List Int} {s : Mem} {x y : Int} (hd : decode cc pc = .ok (.iadd, 1))  (k : Wd p l e R s0 m args below meth c Q A G nL sc kc ks (pc + 1) (0 :: τs) τl (wr (x + y) :: st) ls s) : Wd p l e R s0 m args below meth c Q A G nL sc kc ks pc (0 :: 0 :: τs) τl (y :: x :: st) ls s := by
  intro hs hl hm H locs lsC hP hD hS hv
  refine lv_iadd C.1.1 C.1.2.1 hd ?_
  have h := k ⟨wr_in _, hs.2.2⟩ hl hm H locs lsC hP hD hS hv
  unfold stkB at h
  rw [cv0, ← i32_add] at h
  exact h
theorem o_isub (C : Cx p R s0 m args c cc own nL A G sc xs L kc ks) {pc : Nat} {τs τl : List Nat} {st ls : List Int} {s : Mem} {x y : Int} (hd : decode cc pc = .ok (.isub, 1))  (k : Wd p l e R s0 m args below meth c Q A G nL sc kc ks (pc + 1) (0 :: τs) τl (wr (x - y) :: st) ls s) : Wd p l e R s0 m args below meth c Q A G nL sc kc ks pc (0 :: 0 :: τs) τl (y :: x :: st) ls s := by
  intro hs hl hm H locs lsC hP hD hS hv
  refine lv_isub C.1.1 C.1.2.1 hd ?_
  have h := k ⟨wr_in _, hs.2.2⟩ hl hm H locs lsC hP hD hS hv
  unfold stkB at h
  rw [cv0, ← i32_sub] at h
  exact h
theorem o_imul (C : Cx p R s0 m args c cc own nL A G sc xs L kc ks) {pc : Nat} {τs τl : List Nat} {st ls : List Int} {s : Mem} {x y : Int} (hd : decode cc pc = .ok (.imul, 1))  (k : Wd p l e R s0 m args below meth c Q A G nL sc kc ks (pc + 1) (0 :: τs) τl (wr (x * y) :: st) ls s) : Wd p l e R s0 m args below meth c Q A G nL sc kc ks pc (0 :: 0 :: τs) τl (y :: x :: st) ls s := by
  intro hs hl hm H locs lsC hP hD hS hv
  refine lv_imul C.1.1 C.1.2.1 hd ?_
  have h := k ⟨wr_in _, hs.2.2⟩ hl hm H locs lsC hP hD hS hv
  unfold stkB at h
  rw [cv0, ← i32_mul] at h
  exact h
theorem o_iand (C : Cx p R s0 m args c cc own nL A G sc xs L kc ks) {pc : Nat} {τs τl : List Nat} {st ls : List Int} {s : Mem} {x y : Int} (hd : decode cc pc = .ok (.iand, 1))  (k : Wd p l e R s0 m args below meth c Q A G nL sc kc ks (pc + 1) (0 :: τs) τl (iand_ x y :: st) ls s) : Wd p l e R s0 m args below meth c Q A G nL sc kc ks pc (0 :: 0 :: τs) τl (y :: x :: st) ls s := by
  intro hs hl hm H locs lsC hP hD hS hv
  refine lv_iand C.1.1 C.1.2.1 hd ?_
  have h := k ⟨iand_in _ _, hs.2.2⟩ hl hm H locs lsC hP hD hS hv
  unfold stkB at h
  rw [cv0, ← i32_and] at h
  exact h
theorem o_ior (C : Cx p R s0 m args c cc own nL A G sc xs L kc ks) {pc : Nat} {τs τl : List Nat} {st ls : List Int} {s : Mem} {x y : Int} (hd : decode cc pc = .ok (.ior, 1))  (k : Wd p l e R s0 m args below meth c Q A G nL sc kc ks (pc + 1) (0 :: τs) τl (ior_ x y :: st) ls s) : Wd p l e R s0 m args below meth c Q A G nL sc kc ks pc (0 :: 0 :: τs) τl (y :: x :: st) ls s := by
  intro hs hl hm H locs lsC hP hD hS hv
  refine lv_ior C.1.1 C.1.2.1 hd ?_
  have h := k ⟨ior_in _ _, hs.2.2⟩ hl hm H locs lsC hP hD hS hv
  unfold stkB at h
  rw [cv0, ← i32_or] at h
  exact h
theorem o_ixor (C : Cx p R s0 m args c cc own nL A G sc xs L kc ks) {pc : Nat} {τs τl : List Nat} {st ls : List Int} {s : Mem} {x y : Int} (hd : decode cc pc = .ok (.ixor, 1))  (k : Wd p l e R s0 m args below meth c Q A G nL sc kc ks (pc + 1) (0 :: τs) τl (ixor_ x y :: st) ls s) : Wd p l e R s0 m args below meth c Q A G nL sc kc ks pc (0 :: 0 :: τs) τl (y :: x :: st) ls s := by
  intro hs hl hm H locs lsC hP hD hS hv
  refine lv_ixor C.1.1 C.1.2.1 hd ?_
  have h := k ⟨ixor_in _ _, hs.2.2⟩ hl hm H locs lsC hP hD hS hv
  unfold stkB at h
  rw [cv0, ← i32_xor] at h
  exact h
theorem o_ishl (C : Cx p R s0 m args c cc own nL A G sc xs L kc ks) {pc : Nat} {τs τl : List Nat} {st ls : List Int} {s : Mem} {x y : Int} (hd : decode cc pc = .ok (.ishl, 1))  (k : Wd p l e R s0 m args below meth c Q A G nL sc kc ks (pc + 1) (0 :: τs) τl (ishl_ x y :: st) ls s) : Wd p l e R s0 m args below meth c Q A G nL sc kc ks pc (0 :: 0 :: τs) τl (y :: x :: st) ls s := by
  intro hs hl hm H locs lsC hP hD hS hv
  refine lv_ishl C.1.1 C.1.2.1 hd ?_
  have h := k ⟨ishl_in _ _, hs.2.2⟩ hl hm H locs lsC hP hD hS hv
  unfold stkB at h
  rw [cv0, ← i32_shl] at h
  exact h
theorem o_ishr (C : Cx p R s0 m args c cc own nL A G sc xs L kc ks) {pc : Nat} {τs τl : List Nat} {st ls : List Int} {s : Mem} {x y : Int} (hd : decode cc pc = .ok (.ishr, 1))  (k : Wd p l e R s0 m args below meth c Q A G nL sc kc ks (pc + 1) (0 :: τs) τl (ishr_ x y :: st) ls s) : Wd p l e R s0 m args below meth c Q A G nL sc kc ks pc (0 :: 0 :: τs) τl (y :: x :: st) ls s := by
  intro hs hl hm H locs lsC hP hD hS hv
  refine lv_ishr C.1.1 C.1.2.1 hd ?_
  have h := k ⟨ishr_in _ _, hs.2.2⟩ hl hm H locs lsC hP hD hS hv
  unfold stkB at h
  rw [cv0, ← i32_shr] at h
  exact h
theorem o_ladd (C : Cx p R s0 m args c cc own nL A G sc xs L kc ks) {pc : Nat} {τs τl : List Nat} {st ls : List Int} {s : Mem} {x y : Int} (hd : decode cc pc = .ok (.ladd, 1))  (k : Wd p l e R s0 m args below meth c Q A G nL sc kc ks (pc + 1) (1 :: τs) τl (wl (x + y) :: st) ls s) : Wd p l e R s0 m args below meth c Q A G nL sc kc ks pc (1 :: 1 :: τs) τl (y :: x :: st) ls s := by
  intro hs hl hm H locs lsC hP hD hS hv
  refine lv_ladd C.1.1 C.1.2.1 hd ?_
  have h := k ⟨wl_in _, hs.2.2⟩ hl hm H locs lsC hP hD hS hv
  unfold stkB at h
  rw [cv1, ← i64_add] at h
  exact h
theorem o_lsub (C : Cx p R s0 m args c cc own nL A G sc xs L kc ks) {pc : Nat} {τs τl : List Nat} {st ls : List Int} {s : Mem} {x y : Int} (hd : decode cc pc = .ok (.lsub, 1))  (k : Wd p l e R s0 m args below meth c Q A G nL sc kc ks (pc + 1) (1 :: τs) τl (wl (x - y) :: st) ls s) : Wd p l e R s0 m args below meth c Q A G nL sc kc ks pc (1 :: 1 :: τs) τl (y :: x :: st) ls s := by
  intro hs hl hm H locs lsC hP hD hS hv
  refine lv_lsub C.1.1 C.1.2.1 hd ?_
  have h := k ⟨wl_in _, hs.2.2⟩ hl hm H locs lsC hP hD hS hv
  unfold stkB at h
  rw [cv1, ← i64_sub] at h
  exact h
theorem o_lmul (C : Cx p R s0 m args c cc own nL A G sc xs L kc ks) {pc : Nat} {τs τl : List Nat} {st ls : List Int} {s : Mem} {x y : Int} (hd : decode cc pc = .ok (.lmul, 1))  (k : Wd p l e R s0 m args below meth c Q A G nL sc kc ks (pc + 1) (1 :: τs) τl (wl (x * y) :: st) ls s) : Wd p l e R s0 m args below meth c Q A G nL sc kc ks pc (1 :: 1 :: τs) τl (y :: x :: st) ls s := by
  intro hs hl hm H locs lsC hP hD hS hv
  refine lv_lmul C.1.1 C.1.2.1 hd ?_
  have h := k ⟨wl_in _, hs.2.2⟩ hl hm H locs lsC hP hD hS hv
  unfold stkB at h
  rw [cv1, ← i64_mul] at h
  exact h
theorem o_land (C : Cx p R s0 m args c cc own nL A G sc xs L kc ks) {pc : Nat} {τs τl : List Nat} {st ls : List Int} {s : Mem} {x y : Int} (hd : decode cc pc = .ok (.land, 1))  (k : Wd p l e R s0 m args below meth c Q A G nL sc kc ks (pc + 1) (1 :: τs) τl (land_ x y :: st) ls s) : Wd p l e R s0 m args below meth c Q A G nL sc kc ks pc (1 :: 1 :: τs) τl (y :: x :: st) ls s := by
  intro hs hl hm H locs lsC hP hD hS hv
  refine lv_land C.1.1 C.1.2.1 hd ?_
  have h := k ⟨land_in _ _, hs.2.2⟩ hl hm H locs lsC hP hD hS hv
  unfold stkB at h
  rw [cv1, ← i64_and] at h
  exact h
theorem o_lor (C : Cx p R s0 m args c cc own nL A G sc xs L kc ks) {pc : Nat} {τs τl : List Nat} {st ls : List Int} {s : Mem} {x y : Int} (hd : decode cc pc = .ok (.lor, 1))  (k : Wd p l e R s0 m args below meth c Q A G nL sc kc ks (pc + 1) (1 :: τs) τl (lor_ x y :: st) ls s) : Wd p l e R s0 m args below meth c Q A G nL sc kc ks pc (1 :: 1 :: τs) τl (y :: x :: st) ls s := by
  intro hs hl hm H locs lsC hP hD hS hv
  refine lv_lor C.1.1 C.1.2.1 hd ?_
  have h := k ⟨lor_in _ _, hs.2.2⟩ hl hm H locs lsC hP hD hS hv
  unfold stkB at h
  rw [cv1, ← i64_or] at h
  exact h
theorem o_idiv (C : Cx p R s0 m args c cc own nL A G sc xs L kc ks) {pc : Nat} {τs τl : List Nat} {st ls : List Int} {s : Mem} {x y : Int} (hd : decode cc pc = .ok (.idiv, 1)) (hy : ¬ y = 0) (k : Wd p l e R s0 m args below meth c Q A G nL sc kc ks (pc + 1) (0 :: τs) τl (wr (x.tdiv y) :: st) ls s) : Wd p l e R s0 m args below meth c Q A G nL sc kc ks pc (0 :: 0 :: τs) τl (y :: x :: st) ls s := by
  intro hs hl hm H locs lsC hP hD hS hv
  refine lv_idiv C.1.1 C.1.2.1 hd (fun z => hy ((i32_eq hs.1 (by unfold in32; omega)).mp z)) ?_
  have h := k ⟨wr_in _, hs.2.2⟩ hl hm H locs lsC hP hD hS hv
  unfold stkB at h
  rw [cv0, ← i32_div hs.2.1 hs.1] at h
  exact h
theorem o_irem (C : Cx p R s0 m args c cc own nL A G sc xs L kc ks) {pc : Nat} {τs τl : List Nat} {st ls : List Int} {s : Mem} {x y : Int} (hd : decode cc pc = .ok (.irem, 1)) (hy : ¬ y = 0) (k : Wd p l e R s0 m args below meth c Q A G nL sc kc ks (pc + 1) (0 :: τs) τl (x.tmod y :: st) ls s) : Wd p l e R s0 m args below meth c Q A G nL sc kc ks pc (0 :: 0 :: τs) τl (y :: x :: st) ls s := by
  intro hs hl hm H locs lsC hP hD hS hv
  refine lv_irem C.1.1 C.1.2.1 hd (fun z => hy ((i32_eq hs.1 (by unfold in32; omega)).mp z)) ?_
  have h := k ⟨tmod_in32 hs.2.1, hs.2.2⟩ hl hm H locs lsC hP hD hS hv
  unfold stkB at h
  rw [cv0, ← i32_rem hs.2.1 hs.1] at h
  exact h
theorem o_ldiv (C : Cx p R s0 m args c cc own nL A G sc xs L kc ks) {pc : Nat} {τs τl : List Nat} {st ls : List Int} {s : Mem} {x y : Int} (hd : decode cc pc = .ok (.ldiv, 1)) (hy : ¬ y = 0) (k : Wd p l e R s0 m args below meth c Q A G nL sc kc ks (pc + 1) (1 :: τs) τl (wl (x.tdiv y) :: st) ls s) : Wd p l e R s0 m args below meth c Q A G nL sc kc ks pc (1 :: 1 :: τs) τl (y :: x :: st) ls s := by
  intro hs hl hm H locs lsC hP hD hS hv
  refine lv_ldiv C.1.1 C.1.2.1 hd (fun z => hy ((i64_eq hs.1 (by unfold in64; omega)).mp z)) ?_
  have h := k ⟨wl_in _, hs.2.2⟩ hl hm H locs lsC hP hD hS hv
  unfold stkB at h
  rw [cv1, ← i64_div hs.2.1 hs.1] at h
  exact h
theorem o_lrem (C : Cx p R s0 m args c cc own nL A G sc xs L kc ks) {pc : Nat} {τs τl : List Nat} {st ls : List Int} {s : Mem} {x y : Int} (hd : decode cc pc = .ok (.lrem, 1)) (hy : ¬ y = 0) (k : Wd p l e R s0 m args below meth c Q A G nL sc kc ks (pc + 1) (1 :: τs) τl (x.tmod y :: st) ls s) : Wd p l e R s0 m args below meth c Q A G nL sc kc ks pc (1 :: 1 :: τs) τl (y :: x :: st) ls s := by
  intro hs hl hm H locs lsC hP hD hS hv
  refine lv_lrem C.1.1 C.1.2.1 hd (fun z => hy ((i64_eq hs.1 (by unfold in64; omega)).mp z)) ?_
  have h := k ⟨tmod_in64 hs.2.1, hs.2.2⟩ hl hm H locs lsC hP hD hS hv
  unfold stkB at h
  rw [cv1, ← i64_rem hs.2.1 hs.1] at h
  exact h
theorem o_iushr (C : Cx p R s0 m args c cc own nL A G sc xs L kc ks) {pc : Nat} {τs τl : List Nat} {st ls : List Int} {s : Mem} {x y : Int} (hd : decode cc pc = .ok (.iushr, 1)) (k : Wd p l e R s0 m args below meth c Q A G nL sc kc ks (pc + 1) (0 :: τs) τl (iushr_ x y :: st) ls s) : Wd p l e R s0 m args below meth c Q A G nL sc kc ks pc (0 :: 0 :: τs) τl (y :: x :: st) ls s := by
  intro hs hl hm H locs lsC hP hD hS hv
  exact lv_iushr C.1.1 C.1.2.1 hd (i32_ushr x y) (k ⟨iushr_in _ _, hs.2.2⟩ hl hm H locs lsC hP hD hS hv)
theorem o_lshl (C : Cx p R s0 m args c cc own nL A G sc xs L kc ks) {pc : Nat} {τs τl : List Nat} {st ls : List Int} {s : Mem} {x y : Int} (hd : decode cc pc = .ok (.lshl, 1)) (k : Wd p l e R s0 m args below meth c Q A G nL sc kc ks (pc + 1) (1 :: τs) τl (lshl_ x y :: st) ls s) : Wd p l e R s0 m args below meth c Q A G nL sc kc ks pc (0 :: 1 :: τs) τl (y :: x :: st) ls s := by
  intro hs hl hm H locs lsC hP hD hS hv
  exact lv_lshl C.1.1 C.1.2.1 hd (i64_shl x y) (k ⟨lshl_in _ _, hs.2.2⟩ hl hm H locs lsC hP hD hS hv)
theorem o_lcmp (C : Cx p R s0 m args c cc own nL A G sc xs L kc ks) {pc : Nat} {τs τl : List Nat} {st ls : List Int} {s : Mem} {x y : Int} (hd : decode cc pc = .ok (.lcmp, 1)) (k : Wd p l e R s0 m args below meth c Q A G nL sc kc ks (pc + 1) (0 :: τs) τl (lcmp_ x y :: st) ls s) : Wd p l e R s0 m args below meth c Q A G nL sc kc ks pc (1 :: 1 :: τs) τl (y :: x :: st) ls s := by
  intro hs hl hm H locs lsC hP hD hS hv
  refine W.lcmp C.1.1 C.1.2.1 hd ?_
  have h := k ⟨lcmp_in _ _, hs.2.2⟩ hl hm H locs lsC hP hD hS hv
  unfold stkB at h
  rw [cv0, ← i64_cmp hs.2.1 hs.1] at h
  exact h
theorem o_i2l (C : Cx p R s0 m args c cc own nL A G sc xs L kc ks) {pc : Nat} {τs τl : List Nat} {st ls : List Int} {s : Mem} {x : Int} (hd : decode cc pc = .ok (.i2l, 1)) (k : Wd p l e R s0 m args below meth c Q A G nL sc kc ks (pc + 1) (1 :: τs) τl (x :: st) ls s) : Wd p l e R s0 m args below meth c Q A G nL sc kc ks pc (0 :: τs) τl (x :: st) ls s := by
  intro hs hl hm H locs lsC hP hD hS hv
  exact lv_i2l C.1.1 C.1.2.1 hd (i32_i2l hs.1) (k ⟨in32_64 hs.1, hs.2⟩ hl hm H locs lsC hP hD hS hv)
theorem o_l2i (C : Cx p R s0 m args c cc own nL A G sc xs L kc ks) {pc : Nat} {τs τl : List Nat} {st ls : List Int} {s : Mem} {x : Int} (hd : decode cc pc = .ok (.l2i, 1)) (k : Wd p l e R s0 m args below meth c Q A G nL sc kc ks (pc + 1) (0 :: τs) τl (wr x :: st) ls s) : Wd p l e R s0 m args below meth c Q A G nL sc kc ks pc (1 :: τs) τl (x :: st) ls s := by
  intro hs hl hm H locs lsC hP hD hS hv
  exact lv_l2i C.1.1 C.1.2.1 hd i64_l2i (k ⟨wr_in _, hs.2⟩ hl hm H locs lsC hP hD hS hv)
theorem o_i2b (C : Cx p R s0 m args c cc own nL A G sc xs L kc ks) {pc : Nat} {τs τl : List Nat} {st ls : List Int} {s : Mem} {x : Int} (hd : decode cc pc = .ok (.i2b, 1)) (k : Wd p l e R s0 m args below meth c Q A G nL sc kc ks (pc + 1) (0 :: τs) τl (w8 x :: st) ls s) : Wd p l e R s0 m args below meth c Q A G nL sc kc ks pc (0 :: τs) τl (x :: st) ls s := by
  intro hs hl hm H locs lsC hP hD hS hv
  exact lv_i2b C.1.1 C.1.2.1 hd (i32_i2b hs.1) (k ⟨(show in32 _ by have := w8_in x; unfold in32; omega), hs.2⟩ hl hm H locs lsC hP hD hS hv)
theorem o_i2s (C : Cx p R s0 m args c cc own nL A G sc xs L kc ks) {pc : Nat} {τs τl : List Nat} {st ls : List Int} {s : Mem} {x : Int} (hd : decode cc pc = .ok (.i2s, 1)) (k : Wd p l e R s0 m args below meth c Q A G nL sc kc ks (pc + 1) (0 :: τs) τl (w16 x :: st) ls s) : Wd p l e R s0 m args below meth c Q A G nL sc kc ks pc (0 :: τs) τl (x :: st) ls s := by
  intro hs hl hm H locs lsC hP hD hS hv
  exact lv_i2s C.1.1 C.1.2.1 hd (i32_i2s hs.1) (k ⟨(show in32 _ by have := w16_in x; unfold in32; omega), hs.2⟩ hl hm H locs lsC hP hD hS hv)
theorem o_ineg (C : Cx p R s0 m args c cc own nL A G sc xs L kc ks) {pc : Nat} {τs τl : List Nat} {st ls : List Int} {s : Mem} {x : Int} (hd : decode cc pc = .ok (.ineg, 1)) (k : Wd p l e R s0 m args below meth c Q A G nL sc kc ks (pc + 1) (0 :: τs) τl (wr (-x) :: st) ls s) : Wd p l e R s0 m args below meth c Q A G nL sc kc ks pc (0 :: τs) τl (x :: st) ls s := by
  intro hs hl hm H locs lsC hP hD hS hv
  refine lv_ineg C.1.1 C.1.2.1 hd ?_
  have h := k ⟨wr_in _, hs.2⟩ hl hm H locs lsC hP hD hS hv
  unfold stkB at h
  rw [cv0, ← i32_neg] at h
  exact h
theorem o_pop (C : Cx p R s0 m args c cc own nL A G sc xs L kc ks) {pc : Nat} {τs τl : List Nat} {st ls : List Int} {s : Mem} {x : Int} {t : Nat} (hd : decode cc pc = .ok (.pop, 1)) (h1 : t ≠ 1) (k : Wd p l e R s0 m args below meth c Q A G nL sc kc ks (pc + 1) τs τl st ls s) : Wd p l e R s0 m args below meth c Q A G nL sc kc ks pc (t :: τs) τl (x :: st) ls s := by
  intro hs hl hm H locs lsC hP hD hS hv
  exact lv_pop C.1.1 C.1.2.1 hd (by rw [cv_cat, if_neg h1]) (k hs.2 hl hm H locs lsC hP hD hS hv)
theorem o_dup (C : Cx p R s0 m args c cc own nL A G sc xs L kc ks) {pc : Nat} {τs τl : List Nat} {st ls : List Int} {s : Mem} {x : Int} {t : Nat} (hd : decode cc pc = .ok (.dup, 1)) (h1 : t ≠ 1) (k : Wd p l e R s0 m args below meth c Q A G nL sc kc ks (pc + 1) (t :: t :: τs) τl (x :: x :: st) ls s) : Wd p l e R s0 m args below meth c Q A G nL sc kc ks pc (t :: τs) τl (x :: st) ls s := by
  intro hs hl hm H locs lsC hP hD hS hv
  exact lv_dup C.1.1 C.1.2.1 hd (by rw [cv_cat, if_neg h1]) (k ⟨hs.1, hs⟩ hl hm H locs lsC hP hD hS hv)
theorem o_dup_x1 (C : Cx p R s0 m args c cc own nL A G sc xs L kc ks) {pc : Nat} {τs τl : List Nat} {st ls : List Int} {s : Mem} {x y : Int} {t u : Nat} (hd : decode cc pc = .ok (.dup_x1, 1)) (h1 : t ≠ 1) (h2 : u ≠ 1) (k : Wd p l e R s0 m args below meth c Q A G nL sc kc ks (pc + 1) (t :: u :: t :: τs) τl (y :: x :: y :: st) ls s) : Wd p l e R s0 m args below meth c Q A G nL sc kc ks pc (t :: u :: τs) τl (y :: x :: st) ls s := by
  intro hs hl hm H locs lsC hP hD hS hv
  exact lv_dup_x1 C.1.1 C.1.2.1 hd (by rw [cv_cat, if_neg h1]) (by rw [cv_cat, if_neg h2]) (k ⟨hs.1, hs.2.1, hs.1, hs.2.2⟩ hl hm H locs lsC hP hD hS hv)
theorem o_dup2 (C : Cx p R s0 m args c cc own nL A G sc xs L kc ks) {pc : Nat} {τs τl : List Nat} {st ls : List Int} {s : Mem} {x y : Int} {t u : Nat} (hd : decode cc pc = .ok (.dup2, 1)) (h1 : t ≠ 1) (h2 : u ≠ 1) (k : Wd p l e R s0 m args below meth c Q A G nL sc kc ks (pc + 1) (t :: u :: t :: u :: τs) τl (y :: x :: y :: x :: st) ls s) : Wd p l e R s0 m args below meth c Q A G nL sc kc ks pc (t :: u :: τs) τl (y :: x :: st) ls s := by
  intro hs hl hm H locs lsC hP hD hS hv
  exact lv_dup2_11 C.1.1 C.1.2.1 hd (by rw [cv_cat, if_neg h1]) (by rw [cv_cat, if_neg h2]) (k ⟨hs.1, hs.2.1, hs⟩ hl hm H locs lsC hP hD hS hv)
theorem o_if_eq (C : Cx p R s0 m args c cc own nL A G sc xs L kc ks) {pc : Nat} {τs τl : List Nat} {st ls : List Int} {s : Mem} {x : Int} {off : Int} {tg : Nat} (hd : decode cc pc = .ok (.ifCond .eq off, 3)) (ht : (pc : Int) + off = (tg : Int)) (kt : x = 0 → Wd p l e R s0 m args below meth c Q A G nL sc kc ks tg τs τl st ls s) (kf : ¬ (x = 0) → Wd p l e R s0 m args below meth c Q A G nL sc kc ks (pc + 3) τs τl st ls s) : Wd p l e R s0 m args below meth c Q A G nL sc kc ks pc (0 :: τs) τl (x :: st) ls s := by
  intro hs hl hm H locs lsC hP hD hS hv
  exact lv_if_eq C.1.1 C.1.2.1 hd ht (fun z => kt ((i32_eq hs.1 in32_0).mp z) hs.2 hl hm H locs lsC hP hD hS hv) (fun z => kf (fun w => z ((i32_eq hs.1 in32_0).mpr w)) hs.2 hl hm H locs lsC hP hD hS hv)
theorem o_ic_eq (C : Cx p R s0 m args c cc own nL A G sc xs L kc ks) {pc : Nat} {τs τl : List Nat} {st ls : List Int} {s : Mem} {x y : Int} {off : Int} {tg : Nat} (hd : decode cc pc = .ok (.if_icmp .eq off, 3)) (ht : (pc : Int) + off = (tg : Int)) (kt : x = y → Wd p l e R s0 m args below meth c Q A G nL sc kc ks tg τs τl st ls s) (kf : ¬ (x = y) → Wd p l e R s0 m args below meth c Q A G nL sc kc ks (pc + 3) τs τl st ls s) : Wd p l e R s0 m args below meth c Q A G nL sc kc ks pc (0 :: 0 :: τs) τl (y :: x :: st) ls s := by
  intro hs hl hm H locs lsC hP hD hS hv
  exact lv_icmp_eq C.1.1 C.1.2.1 hd ht (fun z => kt ((i32_eq hs.2.1 hs.1).mp z) hs.2.2 hl hm H locs lsC hP hD hS hv) (fun z => kf (fun w => z ((i32_eq hs.2.1 hs.1).mpr w)) hs.2.2 hl hm H locs lsC hP hD hS hv)
theorem o_if_ne (C : Cx p R s0 m args c cc own nL A G sc xs L kc ks) {pc : Nat} {τs τl : List Nat} {st ls : List Int} {s : Mem} {x : Int} {off : Int} {tg : Nat} (hd : decode cc pc = .ok (.ifCond .ne off, 3)) (ht : (pc : Int) + off = (tg : Int)) (kt : ¬ x = 0 → Wd p l e R s0 m args below meth c Q A G nL sc kc ks tg τs τl st ls s) (kf : ¬ (¬ x = 0) → Wd p l e R s0 m args below meth c Q A G nL sc kc ks (pc + 3) τs τl st ls s) : Wd p l e R s0 m args below meth c Q A G nL sc kc ks pc (0 :: τs) τl (x :: st) ls s := by
  intro hs hl hm H locs lsC hP hD hS hv
  exact lv_if_ne C.1.1 C.1.2.1 hd ht (fun z => kt (fun w => z (by rw [w]; rfl)) hs.2 hl hm H locs lsC hP hD hS hv) (fun z => kf (fun w => w ((i32_eq hs.1 in32_0).mp z)) hs.2 hl hm H locs lsC hP hD hS hv)
theorem o_ic_ne (C : Cx p R s0 m args c cc own nL A G sc xs L kc ks) {pc : Nat} {τs τl : List Nat} {st ls : List Int} {s : Mem} {x y : Int} {off : Int} {tg : Nat} (hd : decode cc pc = .ok (.if_icmp .ne off, 3)) (ht : (pc : Int) + off = (tg : Int)) (kt : ¬ x = y → Wd p l e R s0 m args below meth c Q A G nL sc kc ks tg τs τl st ls s) (kf : ¬ (¬ x = y) → Wd p l e R s0 m args below meth c Q A G nL sc kc ks (pc + 3) τs τl st ls s) : Wd p l e R s0 m args below meth c Q A G nL sc kc ks pc (0 :: 0 :: τs) τl (y :: x :: st) ls s := by
  intro hs hl hm H locs lsC hP hD hS hv
  exact lv_icmp_ne C.1.1 C.1.2.1 hd ht (fun z => kt (fun w => z (by rw [w])) hs.2.2 hl hm H locs lsC hP hD hS hv) (fun z => kf (fun w => w ((i32_eq hs.2.1 hs.1).mp z)) hs.2.2 hl hm H locs lsC hP hD hS hv)
theorem o_if_lt (C : Cx p R s0 m args c cc own nL A G sc xs L kc ks) {pc : Nat} {τs τl : List Nat} {st ls : List Int} {s : Mem} {x : Int} {off : Int} {tg : Nat} (hd : decode cc pc = .ok (.ifCond .lt off, 3)) (ht : (pc : Int) + off = (tg : Int)) (kt : x < 0 → Wd p l e R s0 m args below meth c Q A G nL sc kc ks tg τs τl st ls s) (kf : ¬ (x < 0) → Wd p l e R s0 m args below meth c Q A G nL sc kc ks (pc + 3) τs τl st ls s) : Wd p l e R s0 m args below meth c Q A G nL sc kc ks pc (0 :: τs) τl (x :: st) ls s := by
  intro hs hl hm H locs lsC hP hD hS hv
  exact lv_if_lt C.1.1 C.1.2.1 hd ht (fun z => kt ((i32_lt hs.1 in32_0).mp z) hs.2 hl hm H locs lsC hP hD hS hv) (fun z => kf (fun w => z ((i32_lt hs.1 in32_0).mpr w)) hs.2 hl hm H locs lsC hP hD hS hv)
theorem o_ic_lt (C : Cx p R s0 m args c cc own nL A G sc xs L kc ks) {pc : Nat} {τs τl : List Nat} {st ls : List Int} {s : Mem} {x y : Int} {off : Int} {tg : Nat} (hd : decode cc pc = .ok (.if_icmp .lt off, 3)) (ht : (pc : Int) + off = (tg : Int)) (kt : x < y → Wd p l e R s0 m args below meth c Q A G nL sc kc ks tg τs τl st ls s) (kf : ¬ (x < y) → Wd p l e R s0 m args below meth c Q A G nL sc kc ks (pc + 3) τs τl st ls s) : Wd p l e R s0 m args below meth c Q A G nL sc kc ks pc (0 :: 0 :: τs) τl (y :: x :: st) ls s := by
  intro hs hl hm H locs lsC hP hD hS hv
  exact lv_icmp_lt C.1.1 C.1.2.1 hd ht (fun z => kt ((i32_lt hs.2.1 hs.1).mp z) hs.2.2 hl hm H locs lsC hP hD hS hv) (fun z => kf (fun w => z ((i32_lt hs.2.1 hs.1).mpr w)) hs.2.2 hl hm H locs lsC hP hD hS hv)
theorem o_if_ge (C : Cx p R s0 m args c cc own nL A G sc xs L kc ks) {pc : Nat} {τs τl : List Nat} {st ls : List Int} {s : Mem} {x : Int} {off : Int} {tg : Nat} (hd : decode cc pc = .ok (.ifCond .ge off, 3)) (ht : (pc : Int) + off = (tg : Int)) (kt : 0 ≤ x → Wd p l e R s0 m args below meth c Q A G nL sc kc ks tg τs τl st ls s) (kf : ¬ (0 ≤ x) → Wd p l e R s0 m args below meth c Q A G nL sc kc ks (pc + 3) τs τl st ls s) : Wd p l e R s0 m args below meth c Q A G nL sc kc ks pc (0 :: τs) τl (x :: st) ls s := by
  intro hs hl hm H locs lsC hP hD hS hv
  exact lv_if_ge C.1.1 C.1.2.1 hd ht (fun z => kt ((i32_le in32_0 hs.1).mp z) hs.2 hl hm H locs lsC hP hD hS hv) (fun z => kf (fun w => z ((i32_le in32_0 hs.1).mpr w)) hs.2 hl hm H locs lsC hP hD hS hv)
theorem o_ic_ge (C : Cx p R s0 m args c cc own nL A G sc xs L kc ks) {pc : Nat} {τs τl : List Nat} {st ls : List Int} {s : Mem} {x y : Int} {off : Int} {tg : Nat} (hd : decode cc pc = .ok (.if_icmp .ge off, 3)) (ht : (pc : Int) + off = (tg : Int)) (kt : y ≤ x → Wd p l e R s0 m args below meth c Q A G nL sc kc ks tg τs τl st ls s) (kf : ¬ (y ≤ x) → Wd p l e R s0 m args below meth c Q A G nL sc kc ks (pc + 3) τs τl st ls s) : Wd p l e R s0 m args below meth c Q A G nL sc kc ks pc (0 :: 0 :: τs) τl (y :: x :: st) ls s := by
  intro hs hl hm H locs lsC hP hD hS hv
  exact lv_icmp_ge C.1.1 C.1.2.1 hd ht (fun z => kt ((i32_le hs.1 hs.2.1).mp z) hs.2.2 hl hm H locs lsC hP hD hS hv) (fun z => kf (fun w => z ((i32_le hs.1 hs.2.1).mpr w)) hs.2.2 hl hm H locs lsC hP hD hS hv)
theorem o_if_gt (C : Cx p R s0 m args c cc own nL A G sc xs L kc ks) {pc : Nat} {τs τl : List Nat} {st ls : List Int} {s : Mem} {x : Int} {off : Int} {tg : Nat} (hd : decode cc pc = .ok (.ifCond .gt off, 3)) (ht : (pc : Int) + off = (tg : Int)) (kt : 0 < x → Wd p l e R s0 m args below meth c Q A G nL sc kc ks tg τs τl st ls s) (kf : ¬ (0 < x) → Wd p l e R s0 m args below meth c Q A G nL sc kc ks (pc + 3) τs τl st ls s) : Wd p l e R s0 m args below meth c Q A G nL sc kc ks pc (0 :: τs) τl (x :: st) ls s := by
  intro hs hl hm H locs lsC hP hD hS hv
  exact lv_if_gt C.1.1 C.1.2.1 hd ht (fun z => kt ((i32_lt in32_0 hs.1).mp z) hs.2 hl hm H locs lsC hP hD hS hv) (fun z => kf (fun w => z ((i32_lt in32_0 hs.1).mpr w)) hs.2 hl hm H locs lsC hP hD hS hv)
theorem o_ic_gt (C : Cx p R s0 m args c cc own nL A G sc xs L kc ks) {pc : Nat} {τs τl : List Nat} {st ls : List Int} {s : Mem} {x y : Int} {off : Int} {tg : Nat} (hd : decode cc pc = .ok (.if_icmp .gt off, 3)) (ht : (pc : Int) + off = (tg : Int)) (kt : y < x → Wd p l e R s0 m args below meth c Q A G nL sc kc ks tg τs τl st ls s) (kf : ¬ (y < x) → Wd p l e R s0 m args below meth c Q A G nL sc kc ks (pc + 3) τs τl st ls s) : Wd p l e R s0 m args below meth c Q A G nL sc kc ks pc (0 :: 0 :: τs) τl (y :: x :: st) ls s := by
  intro hs hl hm H locs lsC hP hD hS hv
  exact lv_icmp_gt C.1.1 C.1.2.1 hd ht (fun z => kt ((i32_lt hs.1 hs.2.1).mp z) hs.2.2 hl hm H locs lsC hP hD hS hv) (fun z => kf (fun w => z ((i32_lt hs.1 hs.2.1).mpr w)) hs.2.2 hl hm H locs lsC hP hD hS hv)
theorem o_if_le (C : Cx p R s0 m args c cc own nL A G sc xs L kc ks) {pc : Nat} {τs τl : List Nat} {st ls : List Int} {s : Mem} {x : Int} {off : Int} {tg : Nat} (hd : decode cc pc = .ok (.ifCond .le off, 3)) (ht : (pc : Int) + off = (tg : Int)) (kt : x ≤ 0 → Wd p l e R s0 m args below meth c Q A G nL sc kc ks tg τs τl st ls s) (kf : ¬ (x ≤ 0) → Wd p l e R s0 m args below meth c Q A G nL sc kc ks (pc + 3) τs τl st ls s) : Wd p l e R s0 m args below meth c Q A G nL sc kc ks pc (0 :: τs) τl (x :: st) ls s := by
  intro hs hl hm H locs lsC hP hD hS hv
  exact lv_if_le C.1.1 C.1.2.1 hd ht (fun z => kt ((i32_le hs.1 in32_0).mp z) hs.2 hl hm H locs lsC hP hD hS hv) (fun z => kf (fun w => z ((i32_le hs.1 in32_0).mpr w)) hs.2 hl hm H locs lsC hP hD hS hv)
theorem o_ic_le (C : Cx p R s0 m args c cc own nL A G sc xs L kc ks) {pc : Nat} {τs τl : List Nat} {st ls : List Int} {s : Mem} {x y : Int} {off : Int} {tg : Nat} (hd : decode cc pc = .ok (.if_icmp .le off, 3)) (ht : (pc : Int) + off = (tg : Int)) (kt : x ≤ y → Wd p l e R s0 m args below meth c Q A G nL sc kc ks tg τs τl st ls s) (kf : ¬ (x ≤ y) → Wd p l e R s0 m args below meth c Q A G nL sc kc ks (pc + 3) τs τl st ls s) : Wd p l e R s0 m args below meth c Q A G nL sc kc ks pc (0 :: 0 :: τs) τl (y :: x :: st) ls s := by
  intro hs hl hm H locs lsC hP hD hS hv
  exact lv_icmp_le C.1.1 C.1.2.1 hd ht (fun z => kt ((i32_le hs.2.1 hs.1).mp z) hs.2.2 hl hm H locs lsC hP hD hS hv) (fun z => kf (fun w => z ((i32_le hs.2.1 hs.1).mpr w)) hs.2.2 hl hm H locs lsC hP hD hS hv)
theorem o_goto (C : Cx p R s0 m args c cc own nL A G sc xs L kc ks) {pc : Nat} {τs τl : List Nat} {st ls : List Int} {s : Mem} {off : Int} {tg : Nat} (hd : decode cc pc = .ok (.goto off, 3)) (ht : (pc : Int) + off = (tg : Int)) (k : Wd p l e R s0 m args below meth c Q A G nL sc kc ks tg τs τl st ls s) : Wd p l e R s0 m args below meth c Q A G nL sc kc ks pc τs τl st ls s := by
  intro hs hl hm H locs lsC hP hD hS hv
  exact lv_goto C.1.1 C.1.2.1 hd ht (k hs hl hm H locs lsC hP hD hS hv)
end Sim
