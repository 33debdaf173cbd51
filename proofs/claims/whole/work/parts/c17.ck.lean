/-! ===== a checker for blocks, and: where it says yes the machine follows the abstract machine (wip/gen/mk17.py) ===== -/
abbrev EntB : Type := List (Nat × List Nat × List Nat)
abbrev Ck : Type := Option (Nat × List Nat × List Nat)
def entO (E : EntB) (pc : Nat) : Option (List Nat × List Nat) := (E.find? (fun q => q.1 == pc)).map (fun q => q.2)
def tgo (E : EntB) (t : Int) (τs τl : List Nat) : Bool := decide (0 ≤ t) && (match entO E t.toNat with
  | some q => (q.1 == τs) && wkB τl q.2
  | none => false)
theorem tgo_of {E : EntB} {t : Int} {τs τl : List Nat} (h : tgo E t τs τl = true) : ∃ (n : Nat) (b : List Nat), t = n ∧ entO E n = some (τs, b) ∧ wkB τl b = true := by
  unfold tgo at h
  rw [Bool.and_eq_true, decide_eq_true_eq] at h
  cases he : entO E t.toNat with
  | none => rw [he] at h; cases h.2
  | some q =>
    rw [he] at h
    have h2 := h.2
    rw [Bool.and_eq_true, beq_iff_eq] at h2
    refine ⟨t.toNat, q.2, by omega, ?_, h2.2⟩
    rw [he, ← h2.1]
def dk (cc : ByteArray) (pc : Nat) (i : Instr) (n : Nat) : Bool := decide (decode cc pc = .ok (i, n))
theorem dk_of {cc : ByteArray} {pc n : Nat} {i : Instr} (h : dk cc pc i n = true) : decode cc pc = .ok (i, n) := of_decide_eq_true h
def ckS (cc : ByteArray) (pc : Nat) (τs τl : List Nat) (i : Instr) (n : Nat) (pops push : List Nat) : Ck := if (dk cc pc i n && pops.isPrefixOf τs) = true then some (pc + n, push ++ τs.drop pops.length, τl) else none
theorem ckS_of {cc : ByteArray} {pc n pc' : Nat} {τs τl τs' τl' pops push : List Nat} {i : Instr} (h : ckS cc pc τs τl i n pops push = some (pc', τs', τl')) : decode cc pc = .ok (i, n) ∧ pc' = pc + n ∧ τl' = τl ∧ ∃ τr, τs = pops ++ τr ∧ τs' = push ++ τr := by
  unfold ckS at h
  split at h
  · rename_i hc
    rw [Bool.and_eq_true] at hc
    simp only [Option.some.injEq, Prod.mk.injEq] at h
    obtain ⟨h1, h2, h3⟩ := h
    obtain ⟨τr, hr⟩ := List.isPrefixOf_iff_prefix.mp hc.2
    refine ⟨dk_of hc.1, h1.symm, h3.symm, τr, hr.symm, ?_⟩
    rw [← h2, ← hr, List.drop_left]
  · cases h
def ckif (b : Bool) (q : Nat × List Nat × List Nat) : Ck := if b = true then some q else none
theorem ckif_of {b : Bool} {q q' : Nat × List Nat × List Nat} (h : ckif b q = some q') : b = true ∧ q = q' := by
  unfold ckif at h
  split at h
  · rename_i hb; exact ⟨hb, Option.some.inj h⟩
  · cases h
def i32b (v : Int) : Bool := decide (-2147483648 ≤ v) && decide (v < 2147483648)
def i64b (v : Int) : Bool := decide (-9223372036854775808 ≤ v) && decide (v < 9223372036854775808)
theorem i32b_of {v : Int} (h : i32b v = true) : in32 v := by unfold i32b at h; simp only [Bool.and_eq_true, decide_eq_true_eq] at h; exact h
theorem i64b_of {v : Int} (h : i64b v = true) : in64 v := by unfold i64b at h; simp only [Bool.and_eq_true, decide_eq_true_eq] at h; exact h
def ck_sipush (own : String) (cc : ByteArray) (pc : Nat) (τs τl : List Nat) (h : List Nat) (v : Int) : Ck := match h with
  | [0] => ckif (dk cc pc (.iconst v) 1 && i32b v) (pc + 1, 0 :: τs, τl)
  | [1] => ckif (dk cc pc (.bipush v) 2 && i32b v && decide ((Int8.ofInt v).toInt32 = Int32.ofInt v)) (pc + 2, 0 :: τs, τl)
  | [2] => ckif (dk cc pc (.sipush v) 3 && i32b v && decide ((Int16.ofInt v).toInt32 = Int32.ofInt v)) (pc + 3, 0 :: τs, τl)
  | [3, i, n] => ckif (dk cc pc (.ldc i) 2 && i32b v && inG n (.constant own i (Int32.ofInt v))) (pc + 2, 0 :: τs, τl)
  | [4, i, n] => ckif (dk cc pc (.ldc_w i) 3 && i32b v && inG n (.constant own i (Int32.ofInt v))) (pc + 3, 0 :: τs, τl)
  | _ => none
def ck_bipush (own : String) (cc : ByteArray) (pc : Nat) (τs τl : List Nat) (h : List Nat) (v : Int) : Ck := match h with
  | [0] => ckif (dk cc pc (.lconst 0) 1 && decide (v = 0)) (pc + 1, 1 :: τs, τl)
  | [1] => ckif (dk cc pc (.lconst 1) 1 && decide (v = 1)) (pc + 1, 1 :: τs, τl)
  | [2, i, n] => ckif (dk cc pc (.ldc2_w i) 3 && i64b v && inG n (.constantLong own i (Int64.ofInt v))) (pc + 3, 1 :: τs, τl)
  | _ => none
def f4 (k : Nat) : Fin 4 := ⟨k % 4, Nat.mod_lt _ (by decide)⟩
theorem f4_of {k : Nat} (h : k < 4) : ((f4 k : Fin 4) : Nat) = k := Nat.mod_eq_of_lt h
def ck_load (cc : ByteArray) (pc : Nat) (τs τl : List Nat) (h : List Nat) (k : Nat) (t : Nat → Bool) (a b : Instr) : Ck := match τl[k]? with
  | some u => (match h with
    | [0] => ckif (dk cc pc a 1 && decide (k < 4) && t u) (pc + 1, u :: τs, τl)
    | [1] => ckif (dk cc pc b 2 && t u) (pc + 2, u :: τs, τl)
    | _ => none)
  | none => none
def ck_store (cc : ByteArray) (pc : Nat) (τs τl : List Nat) (h : List Nat) (k nL : Nat) (t : Nat → Bool) (a b : Instr) : Ck := match τs with
  | u :: τr => (match h with
    | [0] => ckif (dk cc pc a 1 && decide (k < 4) && t u && decide (k + 1 < nL ∨ (u ≠ 1 ∧ k < nL)) && (τl[k]?).isSome) (pc + 1, τr, if u = 1 then ((stA τl k).set k 1).set (k + 1) 99 else (stA τl k).set k u)
    | [1] => ckif (dk cc pc b 2 && t u && decide (k + 1 < nL ∨ (u ≠ 1 ∧ k < nL)) && (τl[k]?).isSome) (pc + 2, τr, if u = 1 then ((stA τl k).set k 1).set (k + 1) 99 else (stA τl k).set k u)
    | _ => none)
  | [] => none
def isAB (t : Nat) : Bool := t != 0 && t != 1 && t != 99
theorem isA_of {t : Nat} (h : isAB t = true) : t ≠ 0 ∧ t ≠ 1 ∧ t ≠ 99 := by unfold isAB at h; simp only [Bool.and_eq_true, bne_iff_ne] at h; exact ⟨h.1.1, h.1.2, h.2⟩
def fldB (own : String) (c j i n : Nat) : Bool := decide (c < 12) && decide (j < clW c) && inG n (.fieldLink own i (clN c) (clT c j).2.1 (clT c j).2.2.1)
def ck_getfield (own : String) (cc : ByteArray) (pc : Nat) (τs τl : List Nat) (h : List Nat) (j : Nat) : Ck := match τs, h with
  | t :: τr, [i, n] => ckif (dk cc pc (.getfield i) 3 && decide (10 ≤ t) && fldB own (t - 10) j i n && decide (1000 ≤ fkd (t - 10) j) && decide (fkd (t - 10) j ≤ 1002)) (pc + 3, (if fkd (t - 10) j = 1001 then 1 else 0) :: τr, τl)
  | _, _ => none
def ck_goto_w (own : String) (cc : ByteArray) (pc : Nat) (τs τl : List Nat) (h : List Nat) (o : Int) : Ck := match τs, h with
  | t :: τr, [i, n, j] => ckif (dk cc pc (.getfield i) 3 && decide (10 ≤ t) && fldB own (t - 10) j i n && decide (fkd (t - 10) j = o) && decide (o < 1000)) (pc + 3, frt (t - 10) j :: τr, τl)
  | _, _ => none
def ck_putfield (own : String) (cc : ByteArray) (pc : Nat) (τs τl : List Nat) (h : List Nat) (j : Nat) : Ck := match τs, h with
  | u :: t :: τr, [i, n] => ckif (dk cc pc (.putfield i) 3 && decide (10 ≤ t) && fldB own (t - 10) j i n && ((u == 0 && decide (fkd (t - 10) j = 1000)) || (u == 1 && decide (fkd (t - 10) j = 1001)))) (pc + 3, τr, τl)
  | _, _ => none
def ck_putstatic (own : String) (cc : ByteArray) (pc : Nat) (τs τl : List Nat) (h : List Nat) (j : Nat) : Ck := match τs, h with
  | u :: t :: τr, [i, n] => ckif (dk cc pc (.putfield i) 3 && decide (10 ≤ t) && fldB own (t - 10) j i n && (u == 0) && decide (fkd (t - 10) j = 1002)) (pc + 3, τr, τl)
  | _, _ => none
theorem fldB_of {own : String} {c j i n : Nat} (h : fldB own c j i n = true) : c < 12 ∧ j < clW c ∧ Cond.fieldLink own i (clN c) (clT c j).2.1 (clT c j).2.2.1 ∈ lw_g := by
  unfold fldB at h; simp only [Bool.and_eq_true, decide_eq_true_eq] at h; exact ⟨h.1.1, h.1.2, inG_mem h.2⟩
theorem cls_own {c j : Nat} (hc : c < 12) (hj : j < clW c) : (clT c j).1 = clN c := by
  have := cls_ck c hc
  unfold clsCk at this
  have h := List.all_eq_true.mp this j (List.mem_range.mpr hj)
  rw [Bool.and_eq_true, beq_iff_eq] at h
  exact h.1
theorem cls_kind {c j : Nat} (hc : c < 12) (hj : j < clW c) : (fkd c j = 1000 → clF c j = .int ∧ (clT c j).2.2.2 = false) ∧ (fkd c j = 1001 → clF c j = .long ∧ (clT c j).2.2.2 = false) ∧ (fkd c j = 1002 → clF c j = .boolean ∧ (clT c j).2.2.2 = false) := by
  have := cls_ck c hc
  unfold clsCk at this
  have h := List.all_eq_true.mp this j (List.mem_range.mpr hj)
  rw [Bool.and_eq_true] at h
  have h2 := h.2
  refine ⟨fun e => ?_, fun e => ?_, fun e => ?_⟩
  · rw [if_pos e, Bool.and_eq_true, beq_iff_eq] at h2; exact ⟨h2.1, by simpa using h2.2⟩
  · rw [if_neg (by omega), if_pos e, Bool.and_eq_true, beq_iff_eq] at h2; exact ⟨h2.1, by simpa using h2.2⟩
  · rw [if_neg (by omega), if_neg (by omega), if_pos e, Bool.and_eq_true, beq_iff_eq] at h2; exact ⟨h2.1, by simpa using h2.2⟩
def ck_math (own : String) (cc : ByteArray) (pc : Nat) (τs τl : List Nat) (h : List Nat) (y : MethodName) (pops push : List Nat) : Ck := match h with
  | [i, n] => if (inG n (.methodLink own i y) && decide (cats (τs.drop pops.length) ≤ 100)) = true then ckS cc pc τs τl (.invokestatic i) 3 pops push else none
  | _ => none
def ck_str (own : String) (cc : ByteArray) (pc : Nat) (τs τl : List Nat) (h : List Nat) (y : MethodName) (pops : List Nat) : Ck := match h with
  | [i, n] => if (inG n (.methodLink own i y) && decide (cats (τs.drop pops.length) ≤ 8)) = true then ckS cc pc τs τl (.invokevirtual i) 3 pops [0] else none
  | _ => none
def nM : Nat := mtab.length
def callB (own : String) (cc : ByteArray) (pc : Nat) (τs : List Nat) (mi k i n v : Nat) : Bool := decide (mi < nM) && decide (k / 2 = (jT mi).length) && decide ((k % 2 = 1) ↔ (jP mi = 98)) && (jT mi).reverse.isPrefixOf τs && decide (cats (τs.drop (k / 2)) ≤ 8) &&
      (if v = 0 then jS mi && dk cc pc (.invokestatic i) 3 && inG n (.methodLink own i (jY mi)) else if v = 1 then !(jS mi) && dk cc pc (.invokevirtual i) 3 && inG n (.methodLink own i (jY mi)) else !(jS mi) && dk cc pc (.invokevirtual i) 3 && (own == "MurmurHall") && (i == 22) && decide (jY mi = ⟨"MurmurHall$Trays", "<init>", "()V"⟩))
def ck_call (own : String) (cc : ByteArray) (pc : Nat) (τs τl : List Nat) (h : List Nat) (mi k : Nat) : Ck := match h with
  | [i, n, v] => ckif (callB own cc pc τs mi k i n v) (pc + 3, (if jP mi = 98 then [] else [jP mi]) ++ τs.drop (k / 2), τl)
  | _ => none
theorem ck_call_of {own : String} {cc : ByteArray} {pc mi k : Nat} {τs τl h : List Nat} {q : Nat × List Nat × List Nat} (hc : ck_call own cc pc τs τl h mi k = some q) : ∃ i n v, h = [i, n, v] ∧ callB own cc pc τs mi k i n v = true ∧ (pc + 3, (if jP mi = 98 then [] else [jP mi]) ++ τs.drop (k / 2), τl) = q := by
  unfold ck_call at hc
  split at hc
  · exact ⟨_, _, _, rfl, ckif_of hc⟩
  · cases hc
def ck_if (cc : ByteArray) (E : EntB) (pc : Nat) (τs τl : List Nat) (i : Instr) (t : Int) (pops : List Nat) : Ck := if tgo E t (τs.drop pops.length) τl = true then ckS cc pc τs τl i 3 pops [] else none
def ck1 (own : String) (cc : ByteArray) (nL : Nat) (E : EntB) (pc : Nat) (τs τl h : List Nat) (op : Instr) : Ck := match op with
  | .sipush v => ck_sipush own cc pc τs τl h v
  | .bipush v => ck_bipush own cc pc τs τl h v
  | .ldc _ => ckif (dk cc pc (.ldc 177) 2 && (own == "MurmurHallModel")) (pc + 2, 5 :: τs, τl)
  | .getstatic _ => (match h with
    | [i, n] => ckif (dk cc pc (.getstatic i) 3 && inG n (.fieldLink own i "MurmurHall$Tokens" "WORDS" "[J")) (pc + 3, 6 :: τs, τl)
    | _ => none)
  | .iload k => ck_load cc pc τs τl h k (fun u => u == 0) (.iload_n (f4 k)) (.iload k)
  | .lload k => ck_load cc pc τs τl h k (fun u => u == 1) (.lload_n (f4 k)) (.lload k)
  | .aload k => ck_load cc pc τs τl h k isAB (.aload_n (f4 k)) (.aload k)
  | .istore k => ck_store cc pc τs τl h k nL (fun u => u == 0) (.istore_n (f4 k)) (.istore k)
  | .lstore k => ck_store cc pc τs τl h k nL (fun u => u == 1) (.lstore_n (f4 k)) (.lstore k)
  | .astore k => ck_store cc pc τs τl h k nL isAB (.astore_n (f4 k)) (.astore k)
  | .iinc k n => ckif (dk cc pc (.iinc k n) 3 && decide (τl[k]? = some 0) && decide (k < nL)) (pc + 3, τs, (stA τl k).set k 0)
  | .iadd => ckS cc pc τs τl .iadd 1 [0, 0] [0]
  | .isub => ckS cc pc τs τl .isub 1 [0, 0] [0]
  | .imul => ckS cc pc τs τl .imul 1 [0, 0] [0]
  | .idiv => ckS cc pc τs τl .idiv 1 [0, 0] [0]
  | .irem => ckS cc pc τs τl .irem 1 [0, 0] [0]
  | .iand => ckS cc pc τs τl .iand 1 [0, 0] [0]
  | .ior => ckS cc pc τs τl .ior 1 [0, 0] [0]
  | .ixor => ckS cc pc τs τl .ixor 1 [0, 0] [0]
  | .ishl => ckS cc pc τs τl .ishl 1 [0, 0] [0]
  | .ishr => ckS cc pc τs τl .ishr 1 [0, 0] [0]
  | .iushr => ckS cc pc τs τl .iushr 1 [0, 0] [0]
  | .ladd => ckS cc pc τs τl .ladd 1 [1, 1] [1]
  | .lsub => ckS cc pc τs τl .lsub 1 [1, 1] [1]
  | .lmul => ckS cc pc τs τl .lmul 1 [1, 1] [1]
  | .ldiv => ckS cc pc τs τl .ldiv 1 [1, 1] [1]
  | .lrem => ckS cc pc τs τl .lrem 1 [1, 1] [1]
  | .land => ckS cc pc τs τl .land 1 [1, 1] [1]
  | .lor => ckS cc pc τs τl .lor 1 [1, 1] [1]
  | .lshl => ckS cc pc τs τl .lshl 1 [0, 1] [1]
  | .lcmp => ckS cc pc τs τl .lcmp 1 [1, 1] [0]
  | .ineg => ckS cc pc τs τl .ineg 1 [0] [0]
  | .i2l => ckS cc pc τs τl .i2l 1 [0] [1]
  | .l2i => ckS cc pc τs τl .l2i 1 [1] [0]
  | .i2b => ckS cc pc τs τl .i2b 1 [0] [0]
  | .i2s => ckS cc pc τs τl .i2s 1 [0] [0]
  | .pop => (match τs with
    | t :: τr => ckif (dk cc pc .pop 1 && (t != 1)) (pc + 1, τr, τl)
    | _ => none)
  | .dup => (match τs with
    | t :: τr => ckif (dk cc pc .dup 1 && (t != 1)) (pc + 1, t :: t :: τr, τl)
    | _ => none)
  | .dup_x1 => (match τs with
    | t :: u :: τr => ckif (dk cc pc .dup_x1 1 && (t != 1) && (u != 1)) (pc + 1, t :: u :: t :: τr, τl)
    | _ => none)
  | .dup2 => (match τs with
    | t :: u :: τr => ckif (dk cc pc .dup2 1 && (t != 1) && (u != 1)) (pc + 1, t :: u :: t :: u :: τr, τl)
    | _ => none)
  | .getfield j => ck_getfield own cc pc τs τl h j
  | .goto_w o => ck_goto_w own cc pc τs τl h o
  | .putfield j => ck_putfield own cc pc τs τl h j
  | .putstatic j => ck_putstatic own cc pc τs τl h j
  | .iaload => ckS cc pc τs τl .iaload 1 [0, 2] [0]
  | .laload => ckS cc pc τs τl .laload 1 [0, 3] [1]
  | .baload => ckS cc pc τs τl .baload 1 [0, 4] [0]
  | .saload => ckS cc pc τs τl .iaload 1 [0, 7] [0]
  | .faload => ckS cc pc τs τl .laload 1 [0, 6] [1]
  | .iastore => ckS cc pc τs τl .iastore 1 [0, 0, 2] []
  | .lastore => ckS cc pc τs τl .lastore 1 [1, 0, 3] []
  | .bastore => ckS cc pc τs τl .bastore 1 [0, 0, 4] []
  | .arraylength => (match τs with
    | t :: τr => ckif (dk cc pc .arraylength 1 && (t == 2 || t == 3 || t == 4)) (pc + 1, 0 :: τr, τl)
    | _ => none)
  | .i2f => ckS cc pc τs τl .arraylength 1 [7] [0]
  | .fneg => ckS cc pc τs τl .arraylength 1 [6] [0]
  | .l2f => ck_str own cc pc τs τl h sy_length [5]
  | .f2d => ck_str own cc pc τs τl h sy_charAt [0, 5]
  | .fmul => ck_math own cc pc τs τl h Lib.Math.min.name [0, 0] [0]
  | .fadd => ck_math own cc pc τs τl h Lib.Math.max.name [0, 0] [0]
  | .fdiv => ck_math own cc pc τs τl h Lib.Math.abs.name [0] [0]
  | .aastore => if τs[2]? = some 2 then ck_math own cc pc τs τl h arraycopyName [0, 0, 2, 0, 2] [] else ck_math own cc pc τs τl h arraycopyName [0, 0, 3, 0, 3] []
  | .invokeinterface mi k => ck_call own cc pc τs τl h mi k
  | .ifCond c t => ck_if cc E pc τs τl (.ifCond c (t - pc)) t [0]
  | .if_icmp c t => ck_if cc E pc τs τl (.if_icmp c (t - pc)) t [0, 0]
  | _ => none
def retI (ret : Option FieldType) : Instr := match ret with
  | none => .return_
  | some .int => .ireturn
  | some .boolean => .ireturn
  | some .long => .lreturn
  | _ => .areturn
def ck_sw (cc : ByteArray) (E : EntB) (pc : Nat) (τs τl h : List Nat) (d : Int) (ps : Array (Int × Int)) : Bool := match τs, h with
  | 0 :: τr, [0, len] => dk cc pc (.tableswitch (d - pc) ((ps.toList.headD (0, 0)).1) ((ps.toList.headD (0, 0)).1 + ps.toList.length - 1) (ps.toList.map (fun q => q.2 - (pc : Int))).toArray) len && decide (tmk pc ((ps.toList.headD (0, 0)).1) (ps.toList.map (fun q => q.2 - (pc : Int))) = ps.toList) && tgo E d τr τl && ps.toList.all (fun q => tgo E q.2 τr τl)
  | 0 :: τr, [1, len] => dk cc pc (.lookupswitch (d - pc) (ps.toList.map (fun q => (q.1, q.2 - (pc : Int)))).toArray) len && decide (lmk pc (ps.toList.map (fun q => (q.1, q.2 - (pc : Int)))) = ps.toList) && (((ps.toList.map (fun q => (q.1, q.2 - (pc : Int))))).zip ((ps.toList.map (fun q => (q.1, q.2 - (pc : Int)))).drop 1)).all (fun (a, next) => a.1 < next.1) && tgo E d τr τl && ps.toList.all (fun q => tgo E q.2 τr τl)
  | _, _ => false
/-- the last operation of a block -/
def ckE (cc : ByteArray) (E : EntB) (ρ : Nat) (ret : Option FieldType) (pc : Nat) (τs τl h : List Nat) (op : Instr) : Bool := match op with
  | .goto t => dk cc pc (.goto (t - pc)) 3 && tgo E t τs τl
  | .jsr t => decide (t = pc) && tgo E t τs τl
  | .lookupswitch d ps => ck_sw cc E pc τs τl h d ps
  | .ireturn => (τs == [0]) && dk cc pc .ireturn 1 && (ρ == 0) && (ret == some .int)
  | .freturn => (τs == [0]) && dk cc pc .ireturn 1 && (ρ == 0) && (ret == some .boolean)
  | .lreturn => (τs == [1]) && dk cc pc .lreturn 1 && (ρ == 1) && (ret == some .long)
  | .areturn => (τs == [ρ]) && dk cc pc .areturn 1 && isRefTy ρ && decide (ρ ≠ 98) && decide (retI ret = .areturn)
  | .return_ => (τs == []) && dk cc pc .return_ 1 && (ρ == 98) && (ret == none)
  | _ => false
def ckB (own : String) (cc : ByteArray) (nL : Nat) (E : EntB) (ρ : Nat) (ret : Option FieldType) : Nat → List Nat → List Nat → List (List Nat) → List Instr → Bool
  | _, _, _, _, [] => false
  | pc, τs, τl, hs, op :: ops => ckE cc E ρ ret pc τs τl (hs.headD []) op || (match ck1 own cc nL E pc τs τl (hs.headD []) op with
    | some (pc', τs', τl') => ckB own cc nL E ρ ret pc' τs' τl' hs.tail ops
    | none => false)
theorem p1_of {st : List Int} {k : Int → List Int → Rs} {q : Int × List Int × List Int × Mem} (h : p1 st k = some q) : ∃ x r, st = x :: r ∧ k x r = some q := by
  unfold p1 at h; cases st with
  | nil => cases h
  | cons x r => exact ⟨x, r, rfl, h⟩
theorem p2_of {st : List Int} {k : Int → Int → List Int → Rs} {q : Int × List Int × List Int × Mem} (h : p2 st k = some q) : ∃ x y r, st = y :: x :: r ∧ k x y r = some q := by
  unfold p2 at h
  match st, h with
  | y :: x :: r, h => exact ⟨x, y, r, rfl, h⟩
theorem p3_of {st : List Int} {k : Int → Int → Int → List Int → Rs} {q : Int × List Int × List Int × Mem} (h : p3 st k = some q) : ∃ x y z r, st = z :: y :: x :: r ∧ k x y z r = some q := by
  unfold p3 at h
  match st, h with
  | z :: y :: x :: r, h => exact ⟨x, y, z, r, rfl, h⟩
theorem p5_of {st : List Int} {k : Int → Int → Int → Int → Int → List Int → Rs} {q : Int × List Int × List Int × Mem} (h : p5 st k = some q) : ∃ x y z u v r, st = v :: u :: z :: y :: x :: r ∧ k x y z u v r = some q := by
  unfold p5 at h
  match st, h with
  | v :: u :: z :: y :: x :: r, h => exact ⟨x, y, z, u, v, r, rfl, h⟩
theorem ite_of {c : Prop} [Decidable c] {a : Rs} {q : Int × List Int × List Int × Mem} (h : (if c then a else none) = some q) : c ∧ a = some q := by
  split at h
  · rename_i hc; exact ⟨hc, h⟩
  · cases h
theorem itn_of {c : Prop} [Decidable c] {a : Rs} {q : Int × List Int × List Int × Mem} (h : (if c then none else a) = some q) : ¬ c ∧ a = some q := by
  split at h
  · cases h
  · rename_i hc; exact ⟨hc, h⟩
theorem swv_mem {x d : Int} : ∀ (l : List (Int × Int)), swv l d x = d ∨ ∃ q ∈ l, swv l d x = q.2
  | [] => Or.inl rfl
  | (a, t) :: r => by
    unfold swv
    split
    · exact Or.inr ⟨(a, t), List.mem_cons_self, rfl⟩
    · rcases swv_mem (x := x) (d := d) r with h | ⟨q, h1, h2⟩
      · exact Or.inl h
      · exact Or.inr ⟨q, List.mem_cons_of_mem _ h1, h2⟩
/-- what holds at the method's end -/
def Rt (p : Program) (l : Launch) (e : Env) (R : Room) (s0 : State) (m : MethodId) (args : Array Value) (below : List Frame) (meth : Method) (c : Code) (Q : State → Prop) (A : Nat → Prop) (G : WG) (sc : Prop) (cc : ByteArray) (ρ : Nat) (ret : Option FieldType) (r : Int) (t : Mem) (kc ks : Nat) : Prop :=
  ∀ (pc : Nat) (H : Heap) (locs : List Loc) (lsC : Array Slot), decode cc pc = .ok (retI ret, 1) → va_P (gD G) classes (wld G t) H → va_D A (wld G t) → va_S A s0.heap H locs → okm t → (ρ ≠ 98 → okv sc ρ r) → (ret = some .boolean → r = 0 ∨ r = 1) → W p l e R s0 m args below meth c H locs kc ks Q (F0 m pc lsC (if ρ = 98 then [] else [cv G ρ r]))
theorem ck_getfield_of {own : String} {cc : ByteArray} {pc j : Nat} {τs τl h : List Nat} {q : Nat × List Nat × List Nat} (hc : ck_getfield own cc pc τs τl h j = some q) : ∃ t τr i n, τs = t :: τr ∧ h = [i, n] ∧ ckif (dk cc pc (.getfield i) 3 && decide (10 ≤ t) && fldB own (t - 10) j i n && decide (1000 ≤ fkd (t - 10) j) && decide (fkd (t - 10) j ≤ 1002)) (pc + 3, (if fkd (t - 10) j = 1001 then 1 else 0) :: τr, τl) = some q := by
  unfold ck_getfield at hc
  split at hc
  · exact ⟨_, _, _, _, rfl, rfl, hc⟩
  · cases hc
theorem ck_goto_w_of {own : String} {cc : ByteArray} {pc : Nat} {o : Int} {τs τl h : List Nat} {q : Nat × List Nat × List Nat} (hc : ck_goto_w own cc pc τs τl h o = some q) : ∃ t τr i n j, τs = t :: τr ∧ h = [i, n, j] ∧ ckif (dk cc pc (.getfield i) 3 && decide (10 ≤ t) && fldB own (t - 10) j i n && decide (fkd (t - 10) j = o) && decide (o < 1000)) (pc + 3, frt (t - 10) j :: τr, τl) = some q := by
  unfold ck_goto_w at hc
  split at hc
  · exact ⟨_, _, _, _, _, rfl, rfl, hc⟩
  · cases hc
theorem ck_putfield_of {own : String} {cc : ByteArray} {pc j : Nat} {τs τl h : List Nat} {q : Nat × List Nat × List Nat} (hc : ck_putfield own cc pc τs τl h j = some q) : ∃ u t τr i n, τs = u :: t :: τr ∧ h = [i, n] ∧ ckif (dk cc pc (.putfield i) 3 && decide (10 ≤ t) && fldB own (t - 10) j i n && ((u == 0 && decide (fkd (t - 10) j = 1000)) || (u == 1 && decide (fkd (t - 10) j = 1001)))) (pc + 3, τr, τl) = some q := by
  unfold ck_putfield at hc
  split at hc
  · exact ⟨_, _, _, _, _, rfl, rfl, hc⟩
  · cases hc
theorem ck_putstatic_of {own : String} {cc : ByteArray} {pc j : Nat} {τs τl h : List Nat} {q : Nat × List Nat × List Nat} (hc : ck_putstatic own cc pc τs τl h j = some q) : ∃ u t τr i n, τs = u :: t :: τr ∧ h = [i, n] ∧ ckif (dk cc pc (.putfield i) 3 && decide (10 ≤ t) && fldB own (t - 10) j i n && (u == 0) && decide (fkd (t - 10) j = 1002)) (pc + 3, τr, τl) = some q := by
  unfold ck_putstatic at hc
  split at hc
  · exact ⟨_, _, _, _, _, rfl, rfl, hc⟩
  · cases hc
section Sim
variable {p : Program} {l : Launch} {e : Env} {R : Room} {s0 : State} {m : MethodId} {args : Array Value} {below : List Frame} {meth : Method} {c : Code} {Q : State → Prop} {cc : ByteArray} {own : String} {nL : Nat} {A : Nat → Prop} {G : WG} {sc : Prop} {xs : Int → Int} {L : Int} {kc ks : Nat}
theorem k_sipush (C : Cx p R s0 m args c cc own nL A G sc xs L kc ks) {pc : Nat} {τs τl : List Nat} {st ls : List Int} {s : Mem} {d : Nat} {E : EntB} {h : List Nat} {ops : List Instr} {q : Int × List Int × List Int × Mem} {pc' : Nat} {τs' τl' : List Nat} {v : Int} (hc : ck1 own cc nL E pc τs τl h (.sipush v) = some (pc', τs', τl')) (hr : run (sem d) xs L ((.sipush v) :: ops) st ls s = some q) (k : ∀ (st' ls' : List Int) (s' : Mem), run (sem d) xs L ops st' ls' s' = some q → Wd p l e R s0 m args below meth c Q A G nL sc kc ks pc' τs' τl' st' ls' s') : Wd p l e R s0 m args below meth c Q A G nL sc kc ks pc τs τl st ls s := by
  have hc : ck_sipush own cc pc τs τl h v = some (pc', τs', τl') := hc
  have hk := k _ _ _ hr
  unfold ck_sipush at hc
  split at hc
  · obtain ⟨hb, e⟩ := ckif_of hc; cases e
    simp only [Bool.and_eq_true] at hb
    exact o_iconst C (dk_of hb.1) (i32b_of hb.2) hk
  · obtain ⟨hb, e⟩ := ckif_of hc; cases e
    simp only [Bool.and_eq_true, decide_eq_true_eq] at hb
    exact o_bipush C (dk_of hb.1.1) (i32b_of hb.1.2) hb.2 hk
  · obtain ⟨hb, e⟩ := ckif_of hc; cases e
    simp only [Bool.and_eq_true, decide_eq_true_eq] at hb
    exact o_sipush C (dk_of hb.1.1) (i32b_of hb.1.2) hb.2 hk
  · obtain ⟨hb, e⟩ := ckif_of hc; cases e
    simp only [Bool.and_eq_true] at hb
    exact o_ldc C (dk_of hb.1.1) (i32b_of hb.1.2) (inG_mem hb.2) hk
  · obtain ⟨hb, e⟩ := ckif_of hc; cases e
    simp only [Bool.and_eq_true] at hb
    exact o_ldcw C (dk_of hb.1.1) (i32b_of hb.1.2) (inG_mem hb.2) hk
  · cases hc
theorem k_bipush (C : Cx p R s0 m args c cc own nL A G sc xs L kc ks) {pc : Nat} {τs τl : List Nat} {st ls : List Int} {s : Mem} {d : Nat} {E : EntB} {h : List Nat} {ops : List Instr} {q : Int × List Int × List Int × Mem} {pc' : Nat} {τs' τl' : List Nat} {v : Int} (hc : ck1 own cc nL E pc τs τl h (.bipush v) = some (pc', τs', τl')) (hr : run (sem d) xs L ((.bipush v) :: ops) st ls s = some q) (k : ∀ (st' ls' : List Int) (s' : Mem), run (sem d) xs L ops st' ls' s' = some q → Wd p l e R s0 m args below meth c Q A G nL sc kc ks pc' τs' τl' st' ls' s') : Wd p l e R s0 m args below meth c Q A G nL sc kc ks pc τs τl st ls s := by
  have hc : ck_bipush own cc pc τs τl h v = some (pc', τs', τl') := hc
  have hk := k _ _ _ hr
  unfold ck_bipush at hc
  split at hc
  · obtain ⟨hb, e⟩ := ckif_of hc; cases e
    simp only [Bool.and_eq_true, decide_eq_true_eq] at hb
    obtain ⟨h1, rfl⟩ := hb
    exact o_lconst C (dk_of h1) (by unfold in64; omega) rfl hk
  · obtain ⟨hb, e⟩ := ckif_of hc; cases e
    simp only [Bool.and_eq_true, decide_eq_true_eq] at hb
    obtain ⟨h1, rfl⟩ := hb
    exact o_lconst C (dk_of h1) (by unfold in64; omega) rfl hk
  · obtain ⟨hb, e⟩ := ckif_of hc; cases e
    simp only [Bool.and_eq_true] at hb
    exact o_ldc2 C (dk_of hb.1.1) (i64b_of hb.1.2) (inG_mem hb.2) hk
  · cases hc
theorem k_ldc (C : Cx p R s0 m args c cc own nL A G sc xs L kc ks) {pc : Nat} {τs τl : List Nat} {st ls : List Int} {s : Mem} {d : Nat} {E : EntB} {h : List Nat} {ops : List Instr} {q : Int × List Int × List Int × Mem} {pc' : Nat} {τs' τl' : List Nat} {z : Nat} (hc : ck1 own cc nL E pc τs τl h (.ldc z) = some (pc', τs', τl')) (hr : run (sem d) xs L ((.ldc z) :: ops) st ls s = some q) (k : ∀ (st' ls' : List Int) (s' : Mem), run (sem d) xs L ops st' ls' s' = some q → Wd p l e R s0 m args below meth c Q A G nL sc kc ks pc' τs' τl' st' ls' s') : Wd p l e R s0 m args below meth c Q A G nL sc kc ks pc τs τl st ls s := by
  obtain ⟨hb, e⟩ := ckif_of (show ckif _ _ = some _ from hc); cases e
  simp only [Bool.and_eq_true, beq_iff_eq] at hb
  exact o_ldcS C (dk_of hb.1) hb.2 (k _ _ _ hr)
theorem k_getstatic (C : Cx p R s0 m args c cc own nL A G sc xs L kc ks) {pc : Nat} {τs τl : List Nat} {st ls : List Int} {s : Mem} {d : Nat} {E : EntB} {h : List Nat} {ops : List Instr} {q : Int × List Int × List Int × Mem} {pc' : Nat} {τs' τl' : List Nat} {z : Nat} (hc : ck1 own cc nL E pc τs τl h (.getstatic z) = some (pc', τs', τl')) (hr : run (sem d) xs L ((.getstatic z) :: ops) st ls s = some q) (k : ∀ (st' ls' : List Int) (s' : Mem), run (sem d) xs L ops st' ls' s' = some q → Wd p l e R s0 m args below meth c Q A G nL sc kc ks pc' τs' τl' st' ls' s') : Wd p l e R s0 m args below meth c Q A G nL sc kc ks pc τs τl st ls s := by
  have hk := k _ _ _ hr
  match h, hc with
  | [i, n], hc =>
    obtain ⟨hb, e⟩ := ckif_of (show ckif _ _ = some _ from hc); cases e
    simp only [Bool.and_eq_true] at hb
    exact o_gets C (dk_of hb.1) (inG_mem hb.2) hk
  | [], hc => cases hc
  | [_], hc => cases hc
  | _ :: _ :: _ :: _, hc => cases hc
theorem k_iload (C : Cx p R s0 m args c cc own nL A G sc xs L kc ks) {pc : Nat} {τs τl : List Nat} {st ls : List Int} {s : Mem} {d : Nat} {E : EntB} {h : List Nat} {ops : List Instr} {q : Int × List Int × List Int × Mem} {pc' : Nat} {τs' τl' : List Nat} {j : Nat} (hc : ck1 own cc nL E pc τs τl h (.iload j) = some (pc', τs', τl')) (hr : run (sem d) xs L ((.iload j) :: ops) st ls s = some q) (k : ∀ (st' ls' : List Int) (s' : Mem), run (sem d) xs L ops st' ls' s' = some q → Wd p l e R s0 m args below meth c Q A G nL sc kc ks pc' τs' τl' st' ls' s') : Wd p l e R s0 m args below meth c Q A G nL sc kc ks pc τs τl st ls s := by
  have hc : ck_load cc pc τs τl h j (fun u => u == 0) (.iload_n (f4 j)) (.iload j) = some (pc', τs', τl') := hc
  have hk := k _ _ _ hr
  unfold ck_load at hc
  cases hu : τl[j]? with
  | none => rw [hu] at hc; cases hc
  | some u =>
    rw [hu] at hc
    dsimp only at hc
    split at hc
    · obtain ⟨hb, e⟩ := ckif_of hc; cases e
      simp only [Bool.and_eq_true, decide_eq_true_eq, beq_iff_eq] at hb
      obtain ⟨⟨h1, h2⟩, rfl⟩ := hb
      exact o_iload_n C (dk_of h1) (f4_of h2) hu hk
    · obtain ⟨hb, e⟩ := ckif_of hc; cases e
      simp only [Bool.and_eq_true, beq_iff_eq] at hb
      obtain ⟨h1, rfl⟩ := hb
      exact o_iload C (dk_of h1) hu hk
    · cases hc
theorem k_lload (C : Cx p R s0 m args c cc own nL A G sc xs L kc ks) {pc : Nat} {τs τl : List Nat} {st ls : List Int} {s : Mem} {d : Nat} {E : EntB} {h : List Nat} {ops : List Instr} {q : Int × List Int × List Int × Mem} {pc' : Nat} {τs' τl' : List Nat} {j : Nat} (hc : ck1 own cc nL E pc τs τl h (.lload j) = some (pc', τs', τl')) (hr : run (sem d) xs L ((.lload j) :: ops) st ls s = some q) (k : ∀ (st' ls' : List Int) (s' : Mem), run (sem d) xs L ops st' ls' s' = some q → Wd p l e R s0 m args below meth c Q A G nL sc kc ks pc' τs' τl' st' ls' s') : Wd p l e R s0 m args below meth c Q A G nL sc kc ks pc τs τl st ls s := by
  have hc : ck_load cc pc τs τl h j (fun u => u == 1) (.lload_n (f4 j)) (.lload j) = some (pc', τs', τl') := hc
  have hk := k _ _ _ hr
  unfold ck_load at hc
  cases hu : τl[j]? with
  | none => rw [hu] at hc; cases hc
  | some u =>
    rw [hu] at hc
    dsimp only at hc
    split at hc
    · obtain ⟨hb, e⟩ := ckif_of hc; cases e
      simp only [Bool.and_eq_true, decide_eq_true_eq, beq_iff_eq] at hb
      obtain ⟨⟨h1, h2⟩, rfl⟩ := hb
      exact o_lload_n C (dk_of h1) (f4_of h2) hu hk
    · obtain ⟨hb, e⟩ := ckif_of hc; cases e
      simp only [Bool.and_eq_true, beq_iff_eq] at hb
      obtain ⟨h1, rfl⟩ := hb
      exact o_lload C (dk_of h1) hu hk
    · cases hc
theorem k_aload (C : Cx p R s0 m args c cc own nL A G sc xs L kc ks) {pc : Nat} {τs τl : List Nat} {st ls : List Int} {s : Mem} {d : Nat} {E : EntB} {h : List Nat} {ops : List Instr} {q : Int × List Int × List Int × Mem} {pc' : Nat} {τs' τl' : List Nat} {j : Nat} (hc : ck1 own cc nL E pc τs τl h (.aload j) = some (pc', τs', τl')) (hr : run (sem d) xs L ((.aload j) :: ops) st ls s = some q) (k : ∀ (st' ls' : List Int) (s' : Mem), run (sem d) xs L ops st' ls' s' = some q → Wd p l e R s0 m args below meth c Q A G nL sc kc ks pc' τs' τl' st' ls' s') : Wd p l e R s0 m args below meth c Q A G nL sc kc ks pc τs τl st ls s := by
  have hc : ck_load cc pc τs τl h j isAB (.aload_n (f4 j)) (.aload j) = some (pc', τs', τl') := hc
  have hk := k _ _ _ hr
  unfold ck_load at hc
  cases hu : τl[j]? with
  | none => rw [hu] at hc; cases hc
  | some u =>
    rw [hu] at hc
    dsimp only at hc
    split at hc
    · obtain ⟨hb, e⟩ := ckif_of hc; cases e
      simp only [Bool.and_eq_true, decide_eq_true_eq] at hb
      exact o_aload_n C (dk_of hb.1.1) (f4_of hb.1.2) hu (isA_of hb.2) hk
    · obtain ⟨hb, e⟩ := ckif_of hc; cases e
      simp only [Bool.and_eq_true] at hb
      exact o_aload C (dk_of hb.1) hu (isA_of hb.2) hk
    · cases hc
theorem k_istore (C : Cx p R s0 m args c cc own nL A G sc xs L kc ks) {pc : Nat} {τs τl : List Nat} {st ls : List Int} {s : Mem} {d : Nat} {E : EntB} {h : List Nat} {ops : List Instr} {q : Int × List Int × List Int × Mem} {pc' : Nat} {τs' τl' : List Nat} {j : Nat} (hc : ck1 own cc nL E pc τs τl h (.istore j) = some (pc', τs', τl')) (hr : run (sem d) xs L ((.istore j) :: ops) st ls s = some q) (k : ∀ (st' ls' : List Int) (s' : Mem), run (sem d) xs L ops st' ls' s' = some q → Wd p l e R s0 m args below meth c Q A G nL sc kc ks pc' τs' τl' st' ls' s') : Wd p l e R s0 m args below meth c Q A G nL sc kc ks pc τs τl st ls s := by
  have hc : ck_store cc pc τs τl h j nL (fun u => u == 0) (.istore_n (f4 j)) (.istore j) = some (pc', τs', τl') := hc
  obtain ⟨x, st', rfl, hr⟩ := p1_of (show p1 _ _ = some q from hr)
  have hk := k _ _ _ hr
  unfold ck_store at hc
  cases τs with
  | nil => cases hc
  | cons u τr =>
    dsimp only at hc
    split at hc
    · obtain ⟨hb, e⟩ := ckif_of hc; cases e
      simp only [Bool.and_eq_true, decide_eq_true_eq, beq_iff_eq] at hb
      obtain ⟨⟨⟨⟨h1, h2⟩, rfl⟩, h4⟩, h5⟩ := hb
      exact o_istore_n C (dk_of h1) (f4_of h2) (by omega) h5 hk
    · obtain ⟨hb, e⟩ := ckif_of hc; cases e
      simp only [Bool.and_eq_true, decide_eq_true_eq, beq_iff_eq] at hb
      obtain ⟨⟨⟨h1, rfl⟩, h4⟩, h5⟩ := hb
      exact o_istore C (dk_of h1) (by omega) h5 hk
    · cases hc
theorem k_lstore (C : Cx p R s0 m args c cc own nL A G sc xs L kc ks) {pc : Nat} {τs τl : List Nat} {st ls : List Int} {s : Mem} {d : Nat} {E : EntB} {h : List Nat} {ops : List Instr} {q : Int × List Int × List Int × Mem} {pc' : Nat} {τs' τl' : List Nat} {j : Nat} (hc : ck1 own cc nL E pc τs τl h (.lstore j) = some (pc', τs', τl')) (hr : run (sem d) xs L ((.lstore j) :: ops) st ls s = some q) (k : ∀ (st' ls' : List Int) (s' : Mem), run (sem d) xs L ops st' ls' s' = some q → Wd p l e R s0 m args below meth c Q A G nL sc kc ks pc' τs' τl' st' ls' s') : Wd p l e R s0 m args below meth c Q A G nL sc kc ks pc τs τl st ls s := by
  have hc : ck_store cc pc τs τl h j nL (fun u => u == 1) (.lstore_n (f4 j)) (.lstore j) = some (pc', τs', τl') := hc
  obtain ⟨x, st', rfl, hr⟩ := p1_of (show p1 _ _ = some q from hr)
  have hk := k _ _ _ hr
  unfold ck_store at hc
  cases τs with
  | nil => cases hc
  | cons u τr =>
    dsimp only at hc
    split at hc
    · obtain ⟨hb, e⟩ := ckif_of hc; cases e
      simp only [Bool.and_eq_true, decide_eq_true_eq, beq_iff_eq] at hb
      obtain ⟨⟨⟨⟨h1, h2⟩, rfl⟩, h4⟩, h5⟩ := hb
      exact o_lstore_n C (dk_of h1) (f4_of h2) (by omega) hk
    · obtain ⟨hb, e⟩ := ckif_of hc; cases e
      simp only [Bool.and_eq_true, decide_eq_true_eq, beq_iff_eq] at hb
      obtain ⟨⟨⟨h1, rfl⟩, h4⟩, h5⟩ := hb
      exact o_lstore C (dk_of h1) (by omega) hk
    · cases hc
theorem k_astore (C : Cx p R s0 m args c cc own nL A G sc xs L kc ks) {pc : Nat} {τs τl : List Nat} {st ls : List Int} {s : Mem} {d : Nat} {E : EntB} {h : List Nat} {ops : List Instr} {q : Int × List Int × List Int × Mem} {pc' : Nat} {τs' τl' : List Nat} {j : Nat} (hc : ck1 own cc nL E pc τs τl h (.astore j) = some (pc', τs', τl')) (hr : run (sem d) xs L ((.astore j) :: ops) st ls s = some q) (k : ∀ (st' ls' : List Int) (s' : Mem), run (sem d) xs L ops st' ls' s' = some q → Wd p l e R s0 m args below meth c Q A G nL sc kc ks pc' τs' τl' st' ls' s') : Wd p l e R s0 m args below meth c Q A G nL sc kc ks pc τs τl st ls s := by
  have hc : ck_store cc pc τs τl h j nL isAB (.astore_n (f4 j)) (.astore j) = some (pc', τs', τl') := hc
  obtain ⟨x, st', rfl, hr⟩ := p1_of (show p1 _ _ = some q from hr)
  have hk := k _ _ _ hr
  unfold ck_store at hc
  cases τs with
  | nil => cases hc
  | cons u τr =>
    dsimp only at hc
    split at hc
    · obtain ⟨hb, e⟩ := ckif_of hc; cases e
      simp only [Bool.and_eq_true, decide_eq_true_eq, beq_iff_eq] at hb
      obtain ⟨⟨⟨⟨h1, h2⟩, h3⟩, h4⟩, h5⟩ := hb
      have h6 := isA_of h3
      rw [if_neg h6.2.1] at hk
      exact o_astore_n C (dk_of h1) (f4_of h2) (by omega) h5 ⟨h6.1, h6.2.1⟩ hk
    · obtain ⟨hb, e⟩ := ckif_of hc; cases e
      simp only [Bool.and_eq_true, decide_eq_true_eq, beq_iff_eq] at hb
      obtain ⟨⟨⟨h1, h3⟩, h4⟩, h5⟩ := hb
      have h6 := isA_of h3
      rw [if_neg h6.2.1] at hk
      exact o_astore C (dk_of h1) (by omega) h5 ⟨h6.1, h6.2.1⟩ hk
    · cases hc
theorem k_iinc (C : Cx p R s0 m args c cc own nL A G sc xs L kc ks) {pc : Nat} {τs τl : List Nat} {st ls : List Int} {s : Mem} {d : Nat} {E : EntB} {h : List Nat} {ops : List Instr} {q : Int × List Int × List Int × Mem} {pc' : Nat} {τs' τl' : List Nat} {j : Nat} {n : Int} (hc : ck1 own cc nL E pc τs τl h (.iinc j n) = some (pc', τs', τl')) (hr : run (sem d) xs L ((.iinc j n) :: ops) st ls s = some q) (k : ∀ (st' ls' : List Int) (s' : Mem), run (sem d) xs L ops st' ls' s' = some q → Wd p l e R s0 m args below meth c Q A G nL sc kc ks pc' τs' τl' st' ls' s') : Wd p l e R s0 m args below meth c Q A G nL sc kc ks pc τs τl st ls s := by
  obtain ⟨hb, e⟩ := ckif_of (show ckif _ _ = some _ from hc); cases e
  simp only [Bool.and_eq_true, decide_eq_true_eq] at hb
  exact o_iinc C (dk_of hb.1.1) hb.1.2 hb.2 (k _ _ _ hr)
theorem k_iadd (C : Cx p R s0 m args c cc own nL A G sc xs L kc ks) {pc : Nat} {τs τl : List Nat} {st ls : List Int} {s : Mem} {d : Nat} {E : EntB} {h : List Nat} {ops : List Instr} {q : Int × List Int × List Int × Mem} {pc' : Nat} {τs' τl' : List Nat} (hc : ck1 own cc nL E pc τs τl h (.iadd) = some (pc', τs', τl')) (hr : run (sem d) xs L ((.iadd) :: ops) st ls s = some q) (k : ∀ (st' ls' : List Int) (s' : Mem), run (sem d) xs L ops st' ls' s' = some q → Wd p l e R s0 m args below meth c Q A G nL sc kc ks pc' τs' τl' st' ls' s') : Wd p l e R s0 m args below meth c Q A G nL sc kc ks pc τs τl st ls s := by
  obtain ⟨hd, rfl, rfl, τr, rfl, rfl⟩ := ckS_of (show ckS _ _ _ _ _ _ _ _ = some _ from hc)
  obtain ⟨x, y, r, rfl, hr⟩ := p2_of (show p2 _ _ = some q from hr)
  exact o_iadd C hd (k _ _ _ hr)
theorem k_isub (C : Cx p R s0 m args c cc own nL A G sc xs L kc ks) {pc : Nat} {τs τl : List Nat} {st ls : List Int} {s : Mem} {d : Nat} {E : EntB} {h : List Nat} {ops : List Instr} {q : Int × List Int × List Int × Mem} {pc' : Nat} {τs' τl' : List Nat} (hc : ck1 own cc nL E pc τs τl h (.isub) = some (pc', τs', τl')) (hr : run (sem d) xs L ((.isub) :: ops) st ls s = some q) (k : ∀ (st' ls' : List Int) (s' : Mem), run (sem d) xs L ops st' ls' s' = some q → Wd p l e R s0 m args below meth c Q A G nL sc kc ks pc' τs' τl' st' ls' s') : Wd p l e R s0 m args below meth c Q A G nL sc kc ks pc τs τl st ls s := by
  obtain ⟨hd, rfl, rfl, τr, rfl, rfl⟩ := ckS_of (show ckS _ _ _ _ _ _ _ _ = some _ from hc)
  obtain ⟨x, y, r, rfl, hr⟩ := p2_of (show p2 _ _ = some q from hr)
  exact o_isub C hd (k _ _ _ hr)
theorem k_imul (C : Cx p R s0 m args c cc own nL A G sc xs L kc ks) {pc : Nat} {τs τl : List Nat} {st ls : List Int} {s : Mem} {d : Nat} {E : EntB} {h : List Nat} {ops : List Instr} {q : Int × List Int × List Int × Mem} {pc' : Nat} {τs' τl' : List Nat} (hc : ck1 own cc nL E pc τs τl h (.imul) = some (pc', τs', τl')) (hr : run (sem d) xs L ((.imul) :: ops) st ls s = some q) (k : ∀ (st' ls' : List Int) (s' : Mem), run (sem d) xs L ops st' ls' s' = some q → Wd p l e R s0 m args below meth c Q A G nL sc kc ks pc' τs' τl' st' ls' s') : Wd p l e R s0 m args below meth c Q A G nL sc kc ks pc τs τl st ls s := by
  obtain ⟨hd, rfl, rfl, τr, rfl, rfl⟩ := ckS_of (show ckS _ _ _ _ _ _ _ _ = some _ from hc)
  obtain ⟨x, y, r, rfl, hr⟩ := p2_of (show p2 _ _ = some q from hr)
  exact o_imul C hd (k _ _ _ hr)
theorem k_idiv (C : Cx p R s0 m args c cc own nL A G sc xs L kc ks) {pc : Nat} {τs τl : List Nat} {st ls : List Int} {s : Mem} {d : Nat} {E : EntB} {h : List Nat} {ops : List Instr} {q : Int × List Int × List Int × Mem} {pc' : Nat} {τs' τl' : List Nat} (hc : ck1 own cc nL E pc τs τl h (.idiv) = some (pc', τs', τl')) (hr : run (sem d) xs L ((.idiv) :: ops) st ls s = some q) (k : ∀ (st' ls' : List Int) (s' : Mem), run (sem d) xs L ops st' ls' s' = some q → Wd p l e R s0 m args below meth c Q A G nL sc kc ks pc' τs' τl' st' ls' s') : Wd p l e R s0 m args below meth c Q A G nL sc kc ks pc τs τl st ls s := by
  obtain ⟨hd, rfl, rfl, τr, rfl, rfl⟩ := ckS_of (show ckS _ _ _ _ _ _ _ _ = some _ from hc)
  obtain ⟨x, y, r, rfl, hr⟩ := p2_of (show p2 _ _ = some q from hr)
  obtain ⟨hy, hr⟩ := itn_of hr
  exact o_idiv C hd hy (k _ _ _ hr)
theorem k_irem (C : Cx p R s0 m args c cc own nL A G sc xs L kc ks) {pc : Nat} {τs τl : List Nat} {st ls : List Int} {s : Mem} {d : Nat} {E : EntB} {h : List Nat} {ops : List Instr} {q : Int × List Int × List Int × Mem} {pc' : Nat} {τs' τl' : List Nat} (hc : ck1 own cc nL E pc τs τl h (.irem) = some (pc', τs', τl')) (hr : run (sem d) xs L ((.irem) :: ops) st ls s = some q) (k : ∀ (st' ls' : List Int) (s' : Mem), run (sem d) xs L ops st' ls' s' = some q → Wd p l e R s0 m args below meth c Q A G nL sc kc ks pc' τs' τl' st' ls' s') : Wd p l e R s0 m args below meth c Q A G nL sc kc ks pc τs τl st ls s := by
  obtain ⟨hd, rfl, rfl, τr, rfl, rfl⟩ := ckS_of (show ckS _ _ _ _ _ _ _ _ = some _ from hc)
  obtain ⟨x, y, r, rfl, hr⟩ := p2_of (show p2 _ _ = some q from hr)
  obtain ⟨hy, hr⟩ := itn_of hr
  exact o_irem C hd hy (k _ _ _ hr)
theorem k_iand (C : Cx p R s0 m args c cc own nL A G sc xs L kc ks) {pc : Nat} {τs τl : List Nat} {st ls : List Int} {s : Mem} {d : Nat} {E : EntB} {h : List Nat} {ops : List Instr} {q : Int × List Int × List Int × Mem} {pc' : Nat} {τs' τl' : List Nat} (hc : ck1 own cc nL E pc τs τl h (.iand) = some (pc', τs', τl')) (hr : run (sem d) xs L ((.iand) :: ops) st ls s = some q) (k : ∀ (st' ls' : List Int) (s' : Mem), run (sem d) xs L ops st' ls' s' = some q → Wd p l e R s0 m args below meth c Q A G nL sc kc ks pc' τs' τl' st' ls' s') : Wd p l e R s0 m args below meth c Q A G nL sc kc ks pc τs τl st ls s := by
  obtain ⟨hd, rfl, rfl, τr, rfl, rfl⟩ := ckS_of (show ckS _ _ _ _ _ _ _ _ = some _ from hc)
  obtain ⟨x, y, r, rfl, hr⟩ := p2_of (show p2 _ _ = some q from hr)
  exact o_iand C hd (k _ _ _ hr)
theorem k_ior (C : Cx p R s0 m args c cc own nL A G sc xs L kc ks) {pc : Nat} {τs τl : List Nat} {st ls : List Int} {s : Mem} {d : Nat} {E : EntB} {h : List Nat} {ops : List Instr} {q : Int × List Int × List Int × Mem} {pc' : Nat} {τs' τl' : List Nat} (hc : ck1 own cc nL E pc τs τl h (.ior) = some (pc', τs', τl')) (hr : run (sem d) xs L ((.ior) :: ops) st ls s = some q) (k : ∀ (st' ls' : List Int) (s' : Mem), run (sem d) xs L ops st' ls' s' = some q → Wd p l e R s0 m args below meth c Q A G nL sc kc ks pc' τs' τl' st' ls' s') : Wd p l e R s0 m args below meth c Q A G nL sc kc ks pc τs τl st ls s := by
  obtain ⟨hd, rfl, rfl, τr, rfl, rfl⟩ := ckS_of (show ckS _ _ _ _ _ _ _ _ = some _ from hc)
  obtain ⟨x, y, r, rfl, hr⟩ := p2_of (show p2 _ _ = some q from hr)
  exact o_ior C hd (k _ _ _ hr)
theorem k_ixor (C : Cx p R s0 m args c cc own nL A G sc xs L kc ks) {pc : Nat} {τs τl : List Nat} {st ls : List Int} {s : Mem} {d : Nat} {E : EntB} {h : List Nat} {ops : List Instr} {q : Int × List Int × List Int × Mem} {pc' : Nat} {τs' τl' : List Nat} (hc : ck1 own cc nL E pc τs τl h (.ixor) = some (pc', τs', τl')) (hr : run (sem d) xs L ((.ixor) :: ops) st ls s = some q) (k : ∀ (st' ls' : List Int) (s' : Mem), run (sem d) xs L ops st' ls' s' = some q → Wd p l e R s0 m args below meth c Q A G nL sc kc ks pc' τs' τl' st' ls' s') : Wd p l e R s0 m args below meth c Q A G nL sc kc ks pc τs τl st ls s := by
  obtain ⟨hd, rfl, rfl, τr, rfl, rfl⟩ := ckS_of (show ckS _ _ _ _ _ _ _ _ = some _ from hc)
  obtain ⟨x, y, r, rfl, hr⟩ := p2_of (show p2 _ _ = some q from hr)
  exact o_ixor C hd (k _ _ _ hr)
theorem k_ishl (C : Cx p R s0 m args c cc own nL A G sc xs L kc ks) {pc : Nat} {τs τl : List Nat} {st ls : List Int} {s : Mem} {d : Nat} {E : EntB} {h : List Nat} {ops : List Instr} {q : Int × List Int × List Int × Mem} {pc' : Nat} {τs' τl' : List Nat} (hc : ck1 own cc nL E pc τs τl h (.ishl) = some (pc', τs', τl')) (hr : run (sem d) xs L ((.ishl) :: ops) st ls s = some q) (k : ∀ (st' ls' : List Int) (s' : Mem), run (sem d) xs L ops st' ls' s' = some q → Wd p l e R s0 m args below meth c Q A G nL sc kc ks pc' τs' τl' st' ls' s') : Wd p l e R s0 m args below meth c Q A G nL sc kc ks pc τs τl st ls s := by
  obtain ⟨hd, rfl, rfl, τr, rfl, rfl⟩ := ckS_of (show ckS _ _ _ _ _ _ _ _ = some _ from hc)
  obtain ⟨x, y, r, rfl, hr⟩ := p2_of (show p2 _ _ = some q from hr)
  exact o_ishl C hd (k _ _ _ hr)
theorem k_ishr (C : Cx p R s0 m args c cc own nL A G sc xs L kc ks) {pc : Nat} {τs τl : List Nat} {st ls : List Int} {s : Mem} {d : Nat} {E : EntB} {h : List Nat} {ops : List Instr} {q : Int × List Int × List Int × Mem} {pc' : Nat} {τs' τl' : List Nat} (hc : ck1 own cc nL E pc τs τl h (.ishr) = some (pc', τs', τl')) (hr : run (sem d) xs L ((.ishr) :: ops) st ls s = some q) (k : ∀ (st' ls' : List Int) (s' : Mem), run (sem d) xs L ops st' ls' s' = some q → Wd p l e R s0 m args below meth c Q A G nL sc kc ks pc' τs' τl' st' ls' s') : Wd p l e R s0 m args below meth c Q A G nL sc kc ks pc τs τl st ls s := by
  obtain ⟨hd, rfl, rfl, τr, rfl, rfl⟩ := ckS_of (show ckS _ _ _ _ _ _ _ _ = some _ from hc)
  obtain ⟨x, y, r, rfl, hr⟩ := p2_of (show p2 _ _ = some q from hr)
  exact o_ishr C hd (k _ _ _ hr)
theorem k_iushr (C : Cx p R s0 m args c cc own nL A G sc xs L kc ks) {pc : Nat} {τs τl : List Nat} {st ls : List Int} {s : Mem} {d : Nat} {E : EntB} {h : List Nat} {ops : List Instr} {q : Int × List Int × List Int × Mem} {pc' : Nat} {τs' τl' : List Nat} (hc : ck1 own cc nL E pc τs τl h (.iushr) = some (pc', τs', τl')) (hr : run (sem d) xs L ((.iushr) :: ops) st ls s = some q) (k : ∀ (st' ls' : List Int) (s' : Mem), run (sem d) xs L ops st' ls' s' = some q → Wd p l e R s0 m args below meth c Q A G nL sc kc ks pc' τs' τl' st' ls' s') : Wd p l e R s0 m args below meth c Q A G nL sc kc ks pc τs τl st ls s := by
  obtain ⟨hd, rfl, rfl, τr, rfl, rfl⟩ := ckS_of (show ckS _ _ _ _ _ _ _ _ = some _ from hc)
  obtain ⟨x, y, r, rfl, hr⟩ := p2_of (show p2 _ _ = some q from hr)
  exact o_iushr C hd (k _ _ _ hr)
theorem k_ladd (C : Cx p R s0 m args c cc own nL A G sc xs L kc ks) {pc : Nat} {τs τl : List Nat} {st ls : List Int} {s : Mem} {d : Nat} {E : EntB} {h : List Nat} {ops : List Instr} {q : Int × List Int × List Int × Mem} {pc' : Nat} {τs' τl' : List Nat} (hc : ck1 own cc nL E pc τs τl h (.ladd) = some (pc', τs', τl')) (hr : run (sem d) xs L ((.ladd) :: ops) st ls s = some q) (k : ∀ (st' ls' : List Int) (s' : Mem), run (sem d) xs L ops st' ls' s' = some q → Wd p l e R s0 m args below meth c Q A G nL sc kc ks pc' τs' τl' st' ls' s') : Wd p l e R s0 m args below meth c Q A G nL sc kc ks pc τs τl st ls s := by
  obtain ⟨hd, rfl, rfl, τr, rfl, rfl⟩ := ckS_of (show ckS _ _ _ _ _ _ _ _ = some _ from hc)
  obtain ⟨x, y, r, rfl, hr⟩ := p2_of (show p2 _ _ = some q from hr)
  exact o_ladd C hd (k _ _ _ hr)
theorem k_lsub (C : Cx p R s0 m args c cc own nL A G sc xs L kc ks) {pc : Nat} {τs τl : List Nat} {st ls : List Int} {s : Mem} {d : Nat} {E : EntB} {h : List Nat} {ops : List Instr} {q : Int × List Int × List Int × Mem} {pc' : Nat} {τs' τl' : List Nat} (hc : ck1 own cc nL E pc τs τl h (.lsub) = some (pc', τs', τl')) (hr : run (sem d) xs L ((.lsub) :: ops) st ls s = some q) (k : ∀ (st' ls' : List Int) (s' : Mem), run (sem d) xs L ops st' ls' s' = some q → Wd p l e R s0 m args below meth c Q A G nL sc kc ks pc' τs' τl' st' ls' s') : Wd p l e R s0 m args below meth c Q A G nL sc kc ks pc τs τl st ls s := by
  obtain ⟨hd, rfl, rfl, τr, rfl, rfl⟩ := ckS_of (show ckS _ _ _ _ _ _ _ _ = some _ from hc)
  obtain ⟨x, y, r, rfl, hr⟩ := p2_of (show p2 _ _ = some q from hr)
  exact o_lsub C hd (k _ _ _ hr)
theorem k_lmul (C : Cx p R s0 m args c cc own nL A G sc xs L kc ks) {pc : Nat} {τs τl : List Nat} {st ls : List Int} {s : Mem} {d : Nat} {E : EntB} {h : List Nat} {ops : List Instr} {q : Int × List Int × List Int × Mem} {pc' : Nat} {τs' τl' : List Nat} (hc : ck1 own cc nL E pc τs τl h (.lmul) = some (pc', τs', τl')) (hr : run (sem d) xs L ((.lmul) :: ops) st ls s = some q) (k : ∀ (st' ls' : List Int) (s' : Mem), run (sem d) xs L ops st' ls' s' = some q → Wd p l e R s0 m args below meth c Q A G nL sc kc ks pc' τs' τl' st' ls' s') : Wd p l e R s0 m args below meth c Q A G nL sc kc ks pc τs τl st ls s := by
  obtain ⟨hd, rfl, rfl, τr, rfl, rfl⟩ := ckS_of (show ckS _ _ _ _ _ _ _ _ = some _ from hc)
  obtain ⟨x, y, r, rfl, hr⟩ := p2_of (show p2 _ _ = some q from hr)
  exact o_lmul C hd (k _ _ _ hr)
theorem k_ldiv (C : Cx p R s0 m args c cc own nL A G sc xs L kc ks) {pc : Nat} {τs τl : List Nat} {st ls : List Int} {s : Mem} {d : Nat} {E : EntB} {h : List Nat} {ops : List Instr} {q : Int × List Int × List Int × Mem} {pc' : Nat} {τs' τl' : List Nat} (hc : ck1 own cc nL E pc τs τl h (.ldiv) = some (pc', τs', τl')) (hr : run (sem d) xs L ((.ldiv) :: ops) st ls s = some q) (k : ∀ (st' ls' : List Int) (s' : Mem), run (sem d) xs L ops st' ls' s' = some q → Wd p l e R s0 m args below meth c Q A G nL sc kc ks pc' τs' τl' st' ls' s') : Wd p l e R s0 m args below meth c Q A G nL sc kc ks pc τs τl st ls s := by
  obtain ⟨hd, rfl, rfl, τr, rfl, rfl⟩ := ckS_of (show ckS _ _ _ _ _ _ _ _ = some _ from hc)
  obtain ⟨x, y, r, rfl, hr⟩ := p2_of (show p2 _ _ = some q from hr)
  obtain ⟨hy, hr⟩ := itn_of hr
  exact o_ldiv C hd hy (k _ _ _ hr)
theorem k_lrem (C : Cx p R s0 m args c cc own nL A G sc xs L kc ks) {pc : Nat} {τs τl : List Nat} {st ls : List Int} {s : Mem} {d : Nat} {E : EntB} {h : List Nat} {ops : List Instr} {q : Int × List Int × List Int × Mem} {pc' : Nat} {τs' τl' : List Nat} (hc : ck1 own cc nL E pc τs τl h (.lrem) = some (pc', τs', τl')) (hr : run (sem d) xs L ((.lrem) :: ops) st ls s = some q) (k : ∀ (st' ls' : List Int) (s' : Mem), run (sem d) xs L ops st' ls' s' = some q → Wd p l e R s0 m args below meth c Q A G nL sc kc ks pc' τs' τl' st' ls' s') : Wd p l e R s0 m args below meth c Q A G nL sc kc ks pc τs τl st ls s := by
  obtain ⟨hd, rfl, rfl, τr, rfl, rfl⟩ := ckS_of (show ckS _ _ _ _ _ _ _ _ = some _ from hc)
  obtain ⟨x, y, r, rfl, hr⟩ := p2_of (show p2 _ _ = some q from hr)
  obtain ⟨hy, hr⟩ := itn_of hr
  exact o_lrem C hd hy (k _ _ _ hr)
theorem k_land (C : Cx p R s0 m args c cc own nL A G sc xs L kc ks) {pc : Nat} {τs τl : List Nat} {st ls : List Int} {s : Mem} {d : Nat} {E : EntB} {h : List Nat} {ops : List Instr} {q : Int × List Int × List Int × Mem} {pc' : Nat} {τs' τl' : List Nat} (hc : ck1 own cc nL E pc τs τl h (.land) = some (pc', τs', τl')) (hr : run (sem d) xs L ((.land) :: ops) st ls s = some q) (k : ∀ (st' ls' : List Int) (s' : Mem), run (sem d) xs L ops st' ls' s' = some q → Wd p l e R s0 m args below meth c Q A G nL sc kc ks pc' τs' τl' st' ls' s') : Wd p l e R s0 m args below meth c Q A G nL sc kc ks pc τs τl st ls s := by
  obtain ⟨hd, rfl, rfl, τr, rfl, rfl⟩ := ckS_of (show ckS _ _ _ _ _ _ _ _ = some _ from hc)
  obtain ⟨x, y, r, rfl, hr⟩ := p2_of (show p2 _ _ = some q from hr)
  exact o_land C hd (k _ _ _ hr)
theorem k_lor (C : Cx p R s0 m args c cc own nL A G sc xs L kc ks) {pc : Nat} {τs τl : List Nat} {st ls : List Int} {s : Mem} {d : Nat} {E : EntB} {h : List Nat} {ops : List Instr} {q : Int × List Int × List Int × Mem} {pc' : Nat} {τs' τl' : List Nat} (hc : ck1 own cc nL E pc τs τl h (.lor) = some (pc', τs', τl')) (hr : run (sem d) xs L ((.lor) :: ops) st ls s = some q) (k : ∀ (st' ls' : List Int) (s' : Mem), run (sem d) xs L ops st' ls' s' = some q → Wd p l e R s0 m args below meth c Q A G nL sc kc ks pc' τs' τl' st' ls' s') : Wd p l e R s0 m args below meth c Q A G nL sc kc ks pc τs τl st ls s := by
  obtain ⟨hd, rfl, rfl, τr, rfl, rfl⟩ := ckS_of (show ckS _ _ _ _ _ _ _ _ = some _ from hc)
  obtain ⟨x, y, r, rfl, hr⟩ := p2_of (show p2 _ _ = some q from hr)
  exact o_lor C hd (k _ _ _ hr)
theorem k_lshl (C : Cx p R s0 m args c cc own nL A G sc xs L kc ks) {pc : Nat} {τs τl : List Nat} {st ls : List Int} {s : Mem} {d : Nat} {E : EntB} {h : List Nat} {ops : List Instr} {q : Int × List Int × List Int × Mem} {pc' : Nat} {τs' τl' : List Nat} (hc : ck1 own cc nL E pc τs τl h (.lshl) = some (pc', τs', τl')) (hr : run (sem d) xs L ((.lshl) :: ops) st ls s = some q) (k : ∀ (st' ls' : List Int) (s' : Mem), run (sem d) xs L ops st' ls' s' = some q → Wd p l e R s0 m args below meth c Q A G nL sc kc ks pc' τs' τl' st' ls' s') : Wd p l e R s0 m args below meth c Q A G nL sc kc ks pc τs τl st ls s := by
  obtain ⟨hd, rfl, rfl, τr, rfl, rfl⟩ := ckS_of (show ckS _ _ _ _ _ _ _ _ = some _ from hc)
  obtain ⟨x, y, r, rfl, hr⟩ := p2_of (show p2 _ _ = some q from hr)
  exact o_lshl C hd (k _ _ _ hr)
theorem k_lcmp (C : Cx p R s0 m args c cc own nL A G sc xs L kc ks) {pc : Nat} {τs τl : List Nat} {st ls : List Int} {s : Mem} {d : Nat} {E : EntB} {h : List Nat} {ops : List Instr} {q : Int × List Int × List Int × Mem} {pc' : Nat} {τs' τl' : List Nat} (hc : ck1 own cc nL E pc τs τl h (.lcmp) = some (pc', τs', τl')) (hr : run (sem d) xs L ((.lcmp) :: ops) st ls s = some q) (k : ∀ (st' ls' : List Int) (s' : Mem), run (sem d) xs L ops st' ls' s' = some q → Wd p l e R s0 m args below meth c Q A G nL sc kc ks pc' τs' τl' st' ls' s') : Wd p l e R s0 m args below meth c Q A G nL sc kc ks pc τs τl st ls s := by
  obtain ⟨hd, rfl, rfl, τr, rfl, rfl⟩ := ckS_of (show ckS _ _ _ _ _ _ _ _ = some _ from hc)
  obtain ⟨x, y, r, rfl, hr⟩ := p2_of (show p2 _ _ = some q from hr)
  exact o_lcmp C hd (k _ _ _ hr)
theorem k_ineg (C : Cx p R s0 m args c cc own nL A G sc xs L kc ks) {pc : Nat} {τs τl : List Nat} {st ls : List Int} {s : Mem} {d : Nat} {E : EntB} {h : List Nat} {ops : List Instr} {q : Int × List Int × List Int × Mem} {pc' : Nat} {τs' τl' : List Nat} (hc : ck1 own cc nL E pc τs τl h (.ineg) = some (pc', τs', τl')) (hr : run (sem d) xs L ((.ineg) :: ops) st ls s = some q) (k : ∀ (st' ls' : List Int) (s' : Mem), run (sem d) xs L ops st' ls' s' = some q → Wd p l e R s0 m args below meth c Q A G nL sc kc ks pc' τs' τl' st' ls' s') : Wd p l e R s0 m args below meth c Q A G nL sc kc ks pc τs τl st ls s := by
  obtain ⟨hd, rfl, rfl, τr, rfl, rfl⟩ := ckS_of (show ckS _ _ _ _ _ _ _ _ = some _ from hc)
  obtain ⟨x, r, rfl, hr⟩ := p1_of (show p1 _ _ = some q from hr)
  exact o_ineg C hd (k _ _ _ hr)
theorem k_i2l (C : Cx p R s0 m args c cc own nL A G sc xs L kc ks) {pc : Nat} {τs τl : List Nat} {st ls : List Int} {s : Mem} {d : Nat} {E : EntB} {h : List Nat} {ops : List Instr} {q : Int × List Int × List Int × Mem} {pc' : Nat} {τs' τl' : List Nat} (hc : ck1 own cc nL E pc τs τl h (.i2l) = some (pc', τs', τl')) (hr : run (sem d) xs L ((.i2l) :: ops) st ls s = some q) (k : ∀ (st' ls' : List Int) (s' : Mem), run (sem d) xs L ops st' ls' s' = some q → Wd p l e R s0 m args below meth c Q A G nL sc kc ks pc' τs' τl' st' ls' s') : Wd p l e R s0 m args below meth c Q A G nL sc kc ks pc τs τl st ls s := by
  obtain ⟨hd, rfl, rfl, τr, rfl, rfl⟩ := ckS_of (show ckS _ _ _ _ _ _ _ _ = some _ from hc)
  obtain ⟨x, r, rfl, hr⟩ := p1_of (show p1 _ _ = some q from hr)
  exact o_i2l C hd (k _ _ _ hr)
theorem k_l2i (C : Cx p R s0 m args c cc own nL A G sc xs L kc ks) {pc : Nat} {τs τl : List Nat} {st ls : List Int} {s : Mem} {d : Nat} {E : EntB} {h : List Nat} {ops : List Instr} {q : Int × List Int × List Int × Mem} {pc' : Nat} {τs' τl' : List Nat} (hc : ck1 own cc nL E pc τs τl h (.l2i) = some (pc', τs', τl')) (hr : run (sem d) xs L ((.l2i) :: ops) st ls s = some q) (k : ∀ (st' ls' : List Int) (s' : Mem), run (sem d) xs L ops st' ls' s' = some q → Wd p l e R s0 m args below meth c Q A G nL sc kc ks pc' τs' τl' st' ls' s') : Wd p l e R s0 m args below meth c Q A G nL sc kc ks pc τs τl st ls s := by
  obtain ⟨hd, rfl, rfl, τr, rfl, rfl⟩ := ckS_of (show ckS _ _ _ _ _ _ _ _ = some _ from hc)
  obtain ⟨x, r, rfl, hr⟩ := p1_of (show p1 _ _ = some q from hr)
  exact o_l2i C hd (k _ _ _ hr)
theorem k_i2b (C : Cx p R s0 m args c cc own nL A G sc xs L kc ks) {pc : Nat} {τs τl : List Nat} {st ls : List Int} {s : Mem} {d : Nat} {E : EntB} {h : List Nat} {ops : List Instr} {q : Int × List Int × List Int × Mem} {pc' : Nat} {τs' τl' : List Nat} (hc : ck1 own cc nL E pc τs τl h (.i2b) = some (pc', τs', τl')) (hr : run (sem d) xs L ((.i2b) :: ops) st ls s = some q) (k : ∀ (st' ls' : List Int) (s' : Mem), run (sem d) xs L ops st' ls' s' = some q → Wd p l e R s0 m args below meth c Q A G nL sc kc ks pc' τs' τl' st' ls' s') : Wd p l e R s0 m args below meth c Q A G nL sc kc ks pc τs τl st ls s := by
  obtain ⟨hd, rfl, rfl, τr, rfl, rfl⟩ := ckS_of (show ckS _ _ _ _ _ _ _ _ = some _ from hc)
  obtain ⟨x, r, rfl, hr⟩ := p1_of (show p1 _ _ = some q from hr)
  exact o_i2b C hd (k _ _ _ hr)
theorem k_i2s (C : Cx p R s0 m args c cc own nL A G sc xs L kc ks) {pc : Nat} {τs τl : List Nat} {st ls : List Int} {s : Mem} {d : Nat} {E : EntB} {h : List Nat} {ops : List Instr} {q : Int × List Int × List Int × Mem} {pc' : Nat} {τs' τl' : List Nat} (hc : ck1 own cc nL E pc τs τl h (.i2s) = some (pc', τs', τl')) (hr : run (sem d) xs L ((.i2s) :: ops) st ls s = some q) (k : ∀ (st' ls' : List Int) (s' : Mem), run (sem d) xs L ops st' ls' s' = some q → Wd p l e R s0 m args below meth c Q A G nL sc kc ks pc' τs' τl' st' ls' s') : Wd p l e R s0 m args below meth c Q A G nL sc kc ks pc τs τl st ls s := by
  obtain ⟨hd, rfl, rfl, τr, rfl, rfl⟩ := ckS_of (show ckS _ _ _ _ _ _ _ _ = some _ from hc)
  obtain ⟨x, r, rfl, hr⟩ := p1_of (show p1 _ _ = some q from hr)
  exact o_i2s C hd (k _ _ _ hr)
theorem k_iaload (C : Cx p R s0 m args c cc own nL A G sc xs L kc ks) {pc : Nat} {τs τl : List Nat} {st ls : List Int} {s : Mem} {d : Nat} {E : EntB} {h : List Nat} {ops : List Instr} {q : Int × List Int × List Int × Mem} {pc' : Nat} {τs' τl' : List Nat} (hc : ck1 own cc nL E pc τs τl h (.iaload) = some (pc', τs', τl')) (hr : run (sem d) xs L ((.iaload) :: ops) st ls s = some q) (k : ∀ (st' ls' : List Int) (s' : Mem), run (sem d) xs L ops st' ls' s' = some q → Wd p l e R s0 m args below meth c Q A G nL sc kc ks pc' τs' τl' st' ls' s') : Wd p l e R s0 m args below meth c Q A G nL sc kc ks pc τs τl st ls s := by
  obtain ⟨hd, rfl, rfl, τr, rfl, rfl⟩ := ckS_of (show ckS _ _ _ _ _ _ _ _ = some _ from hc)
  obtain ⟨x, y, r, rfl, hr⟩ := p2_of (show p2 _ _ = some q from hr)
  obtain ⟨hy, hr⟩ := ite_of hr
  exact o_iaload C hd hy (k _ _ _ hr)
theorem k_laload (C : Cx p R s0 m args c cc own nL A G sc xs L kc ks) {pc : Nat} {τs τl : List Nat} {st ls : List Int} {s : Mem} {d : Nat} {E : EntB} {h : List Nat} {ops : List Instr} {q : Int × List Int × List Int × Mem} {pc' : Nat} {τs' τl' : List Nat} (hc : ck1 own cc nL E pc τs τl h (.laload) = some (pc', τs', τl')) (hr : run (sem d) xs L ((.laload) :: ops) st ls s = some q) (k : ∀ (st' ls' : List Int) (s' : Mem), run (sem d) xs L ops st' ls' s' = some q → Wd p l e R s0 m args below meth c Q A G nL sc kc ks pc' τs' τl' st' ls' s') : Wd p l e R s0 m args below meth c Q A G nL sc kc ks pc τs τl st ls s := by
  obtain ⟨hd, rfl, rfl, τr, rfl, rfl⟩ := ckS_of (show ckS _ _ _ _ _ _ _ _ = some _ from hc)
  obtain ⟨x, y, r, rfl, hr⟩ := p2_of (show p2 _ _ = some q from hr)
  obtain ⟨hy, hr⟩ := ite_of hr
  exact o_laload C hd hy (k _ _ _ hr)
theorem k_baload (C : Cx p R s0 m args c cc own nL A G sc xs L kc ks) {pc : Nat} {τs τl : List Nat} {st ls : List Int} {s : Mem} {d : Nat} {E : EntB} {h : List Nat} {ops : List Instr} {q : Int × List Int × List Int × Mem} {pc' : Nat} {τs' τl' : List Nat} (hc : ck1 own cc nL E pc τs τl h (.baload) = some (pc', τs', τl')) (hr : run (sem d) xs L ((.baload) :: ops) st ls s = some q) (k : ∀ (st' ls' : List Int) (s' : Mem), run (sem d) xs L ops st' ls' s' = some q → Wd p l e R s0 m args below meth c Q A G nL sc kc ks pc' τs' τl' st' ls' s') : Wd p l e R s0 m args below meth c Q A G nL sc kc ks pc τs τl st ls s := by
  obtain ⟨hd, rfl, rfl, τr, rfl, rfl⟩ := ckS_of (show ckS _ _ _ _ _ _ _ _ = some _ from hc)
  obtain ⟨x, y, r, rfl, hr⟩ := p2_of (show p2 _ _ = some q from hr)
  obtain ⟨hy, hr⟩ := ite_of hr
  exact o_baload C hd hy (k _ _ _ hr)
theorem k_saload (C : Cx p R s0 m args c cc own nL A G sc xs L kc ks) {pc : Nat} {τs τl : List Nat} {st ls : List Int} {s : Mem} {d : Nat} {E : EntB} {h : List Nat} {ops : List Instr} {q : Int × List Int × List Int × Mem} {pc' : Nat} {τs' τl' : List Nat} (hc : ck1 own cc nL E pc τs τl h (.saload) = some (pc', τs', τl')) (hr : run (sem d) xs L ((.saload) :: ops) st ls s = some q) (k : ∀ (st' ls' : List Int) (s' : Mem), run (sem d) xs L ops st' ls' s' = some q → Wd p l e R s0 m args below meth c Q A G nL sc kc ks pc' τs' τl' st' ls' s') : Wd p l e R s0 m args below meth c Q A G nL sc kc ks pc τs τl st ls s := by
  obtain ⟨hd, rfl, rfl, τr, rfl, rfl⟩ := ckS_of (show ckS _ _ _ _ _ _ _ _ = some _ from hc)
  obtain ⟨x, y, r, rfl, hr⟩ := p2_of (show p2 _ _ = some q from hr)
  obtain ⟨hy, hr⟩ := ite_of hr
  exact o_saload C hd hy (k _ _ _ hr)
theorem k_faload (C : Cx p R s0 m args c cc own nL A G sc xs L kc ks) {pc : Nat} {τs τl : List Nat} {st ls : List Int} {s : Mem} {d : Nat} {E : EntB} {h : List Nat} {ops : List Instr} {q : Int × List Int × List Int × Mem} {pc' : Nat} {τs' τl' : List Nat} (hc : ck1 own cc nL E pc τs τl h (.faload) = some (pc', τs', τl')) (hr : run (sem d) xs L ((.faload) :: ops) st ls s = some q) (k : ∀ (st' ls' : List Int) (s' : Mem), run (sem d) xs L ops st' ls' s' = some q → Wd p l e R s0 m args below meth c Q A G nL sc kc ks pc' τs' τl' st' ls' s') : Wd p l e R s0 m args below meth c Q A G nL sc kc ks pc τs τl st ls s := by
  obtain ⟨hd, rfl, rfl, τr, rfl, rfl⟩ := ckS_of (show ckS _ _ _ _ _ _ _ _ = some _ from hc)
  obtain ⟨x, y, r, rfl, hr⟩ := p2_of (show p2 _ _ = some q from hr)
  obtain ⟨hy, hr⟩ := ite_of hr
  exact o_faload C hd hy (k _ _ _ hr)
theorem k_iastore (C : Cx p R s0 m args c cc own nL A G sc xs L kc ks) {pc : Nat} {τs τl : List Nat} {st ls : List Int} {s : Mem} {d : Nat} {E : EntB} {h : List Nat} {ops : List Instr} {q : Int × List Int × List Int × Mem} {pc' : Nat} {τs' τl' : List Nat} (hc : ck1 own cc nL E pc τs τl h (.iastore) = some (pc', τs', τl')) (hr : run (sem d) xs L ((.iastore) :: ops) st ls s = some q) (k : ∀ (st' ls' : List Int) (s' : Mem), run (sem d) xs L ops st' ls' s' = some q → Wd p l e R s0 m args below meth c Q A G nL sc kc ks pc' τs' τl' st' ls' s') : Wd p l e R s0 m args below meth c Q A G nL sc kc ks pc τs τl st ls s := by
  obtain ⟨hd, rfl, rfl, τr, rfl, rfl⟩ := ckS_of (show ckS _ _ _ _ _ _ _ _ = some _ from hc)
  obtain ⟨x, y, z, r, rfl, hr⟩ := p3_of (show p3 _ _ = some q from hr)
  obtain ⟨hy, hr⟩ := ite_of hr
  exact o_iastore C hd hy (k _ _ _ hr)
theorem k_lastore (C : Cx p R s0 m args c cc own nL A G sc xs L kc ks) {pc : Nat} {τs τl : List Nat} {st ls : List Int} {s : Mem} {d : Nat} {E : EntB} {h : List Nat} {ops : List Instr} {q : Int × List Int × List Int × Mem} {pc' : Nat} {τs' τl' : List Nat} (hc : ck1 own cc nL E pc τs τl h (.lastore) = some (pc', τs', τl')) (hr : run (sem d) xs L ((.lastore) :: ops) st ls s = some q) (k : ∀ (st' ls' : List Int) (s' : Mem), run (sem d) xs L ops st' ls' s' = some q → Wd p l e R s0 m args below meth c Q A G nL sc kc ks pc' τs' τl' st' ls' s') : Wd p l e R s0 m args below meth c Q A G nL sc kc ks pc τs τl st ls s := by
  obtain ⟨hd, rfl, rfl, τr, rfl, rfl⟩ := ckS_of (show ckS _ _ _ _ _ _ _ _ = some _ from hc)
  obtain ⟨x, y, z, r, rfl, hr⟩ := p3_of (show p3 _ _ = some q from hr)
  obtain ⟨hy, hr⟩ := ite_of hr
  exact o_lastore C hd hy (k _ _ _ hr)
theorem k_bastore (C : Cx p R s0 m args c cc own nL A G sc xs L kc ks) {pc : Nat} {τs τl : List Nat} {st ls : List Int} {s : Mem} {d : Nat} {E : EntB} {h : List Nat} {ops : List Instr} {q : Int × List Int × List Int × Mem} {pc' : Nat} {τs' τl' : List Nat} (hc : ck1 own cc nL E pc τs τl h (.bastore) = some (pc', τs', τl')) (hr : run (sem d) xs L ((.bastore) :: ops) st ls s = some q) (k : ∀ (st' ls' : List Int) (s' : Mem), run (sem d) xs L ops st' ls' s' = some q → Wd p l e R s0 m args below meth c Q A G nL sc kc ks pc' τs' τl' st' ls' s') : Wd p l e R s0 m args below meth c Q A G nL sc kc ks pc τs τl st ls s := by
  obtain ⟨hd, rfl, rfl, τr, rfl, rfl⟩ := ckS_of (show ckS _ _ _ _ _ _ _ _ = some _ from hc)
  obtain ⟨x, y, z, r, rfl, hr⟩ := p3_of (show p3 _ _ = some q from hr)
  obtain ⟨hy, hr⟩ := ite_of hr
  exact o_bastore C hd hy (k _ _ _ hr)
theorem k_i2f (C : Cx p R s0 m args c cc own nL A G sc xs L kc ks) {pc : Nat} {τs τl : List Nat} {st ls : List Int} {s : Mem} {d : Nat} {E : EntB} {h : List Nat} {ops : List Instr} {q : Int × List Int × List Int × Mem} {pc' : Nat} {τs' τl' : List Nat} (hc : ck1 own cc nL E pc τs τl h (.i2f) = some (pc', τs', τl')) (hr : run (sem d) xs L ((.i2f) :: ops) st ls s = some q) (k : ∀ (st' ls' : List Int) (s' : Mem), run (sem d) xs L ops st' ls' s' = some q → Wd p l e R s0 m args below meth c Q A G nL sc kc ks pc' τs' τl' st' ls' s') : Wd p l e R s0 m args below meth c Q A G nL sc kc ks pc τs τl st ls s := by
  obtain ⟨hd, rfl, rfl, τr, rfl, rfl⟩ := ckS_of (show ckS _ _ _ _ _ _ _ _ = some _ from hc)
  obtain ⟨x, r, rfl, hr⟩ := p1_of (show p1 _ _ = some q from hr)
  exact o_slen C hd (k _ _ _ hr)
theorem k_fneg (C : Cx p R s0 m args c cc own nL A G sc xs L kc ks) {pc : Nat} {τs τl : List Nat} {st ls : List Int} {s : Mem} {d : Nat} {E : EntB} {h : List Nat} {ops : List Instr} {q : Int × List Int × List Int × Mem} {pc' : Nat} {τs' τl' : List Nat} (hc : ck1 own cc nL E pc τs τl h (.fneg) = some (pc', τs', τl')) (hr : run (sem d) xs L ((.fneg) :: ops) st ls s = some q) (k : ∀ (st' ls' : List Int) (s' : Mem), run (sem d) xs L ops st' ls' s' = some q → Wd p l e R s0 m args below meth c Q A G nL sc kc ks pc' τs' τl' st' ls' s') : Wd p l e R s0 m args below meth c Q A G nL sc kc ks pc τs τl st ls s := by
  obtain ⟨hd, rfl, rfl, τr, rfl, rfl⟩ := ckS_of (show ckS _ _ _ _ _ _ _ _ = some _ from hc)
  obtain ⟨x, r, rfl, hr⟩ := p1_of (show p1 _ _ = some q from hr)
  exact o_fneg C hd (k _ _ _ hr)
theorem k_pop (C : Cx p R s0 m args c cc own nL A G sc xs L kc ks) {pc : Nat} {τs τl : List Nat} {st ls : List Int} {s : Mem} {d : Nat} {E : EntB} {h : List Nat} {ops : List Instr} {q : Int × List Int × List Int × Mem} {pc' : Nat} {τs' τl' : List Nat} (hc : ck1 own cc nL E pc τs τl h (.pop) = some (pc', τs', τl')) (hr : run (sem d) xs L ((.pop) :: ops) st ls s = some q) (k : ∀ (st' ls' : List Int) (s' : Mem), run (sem d) xs L ops st' ls' s' = some q → Wd p l e R s0 m args below meth c Q A G nL sc kc ks pc' τs' τl' st' ls' s') : Wd p l e R s0 m args below meth c Q A G nL sc kc ks pc τs τl st ls s := by
  obtain ⟨x, r, rfl, hr⟩ := p1_of (show p1 _ _ = some q from hr)
  have hk := k _ _ _ hr
  cases τs with
  | nil => cases hc
  | cons t τr =>
    obtain ⟨hb, e⟩ := ckif_of (show ckif _ _ = some _ from hc); cases e
    simp only [Bool.and_eq_true, bne_iff_ne] at hb
    exact o_pop C (dk_of hb.1) hb.2 hk
theorem k_dup (C : Cx p R s0 m args c cc own nL A G sc xs L kc ks) {pc : Nat} {τs τl : List Nat} {st ls : List Int} {s : Mem} {d : Nat} {E : EntB} {h : List Nat} {ops : List Instr} {q : Int × List Int × List Int × Mem} {pc' : Nat} {τs' τl' : List Nat} (hc : ck1 own cc nL E pc τs τl h (.dup) = some (pc', τs', τl')) (hr : run (sem d) xs L ((.dup) :: ops) st ls s = some q) (k : ∀ (st' ls' : List Int) (s' : Mem), run (sem d) xs L ops st' ls' s' = some q → Wd p l e R s0 m args below meth c Q A G nL sc kc ks pc' τs' τl' st' ls' s') : Wd p l e R s0 m args below meth c Q A G nL sc kc ks pc τs τl st ls s := by
  obtain ⟨x, r, rfl, hr⟩ := p1_of (show p1 _ _ = some q from hr)
  have hk := k _ _ _ hr
  cases τs with
  | nil => cases hc
  | cons t τr =>
    obtain ⟨hb, e⟩ := ckif_of (show ckif _ _ = some _ from hc); cases e
    simp only [Bool.and_eq_true, bne_iff_ne] at hb
    exact o_dup C (dk_of hb.1) hb.2 hk
theorem k_dup_x1 (C : Cx p R s0 m args c cc own nL A G sc xs L kc ks) {pc : Nat} {τs τl : List Nat} {st ls : List Int} {s : Mem} {d : Nat} {E : EntB} {h : List Nat} {ops : List Instr} {q : Int × List Int × List Int × Mem} {pc' : Nat} {τs' τl' : List Nat} (hc : ck1 own cc nL E pc τs τl h (.dup_x1) = some (pc', τs', τl')) (hr : run (sem d) xs L ((.dup_x1) :: ops) st ls s = some q) (k : ∀ (st' ls' : List Int) (s' : Mem), run (sem d) xs L ops st' ls' s' = some q → Wd p l e R s0 m args below meth c Q A G nL sc kc ks pc' τs' τl' st' ls' s') : Wd p l e R s0 m args below meth c Q A G nL sc kc ks pc τs τl st ls s := by
  obtain ⟨x, y, r, rfl, hr⟩ := p2_of (show p2 _ _ = some q from hr)
  have hk := k _ _ _ hr
  match τs, hc with
  | [], hc => cases hc
  | [_], hc => cases hc
  | t :: u :: τr, hc =>
    obtain ⟨hb, e⟩ := ckif_of (show ckif _ _ = some _ from hc); cases e
    simp only [Bool.and_eq_true, bne_iff_ne] at hb
    exact o_dup_x1 C (dk_of hb.1.1) hb.1.2 hb.2 hk
theorem k_dup2 (C : Cx p R s0 m args c cc own nL A G sc xs L kc ks) {pc : Nat} {τs τl : List Nat} {st ls : List Int} {s : Mem} {d : Nat} {E : EntB} {h : List Nat} {ops : List Instr} {q : Int × List Int × List Int × Mem} {pc' : Nat} {τs' τl' : List Nat} (hc : ck1 own cc nL E pc τs τl h (.dup2) = some (pc', τs', τl')) (hr : run (sem d) xs L ((.dup2) :: ops) st ls s = some q) (k : ∀ (st' ls' : List Int) (s' : Mem), run (sem d) xs L ops st' ls' s' = some q → Wd p l e R s0 m args below meth c Q A G nL sc kc ks pc' τs' τl' st' ls' s') : Wd p l e R s0 m args below meth c Q A G nL sc kc ks pc τs τl st ls s := by
  obtain ⟨x, y, r, rfl, hr⟩ := p2_of (show p2 _ _ = some q from hr)
  have hk := k _ _ _ hr
  match τs, hc with
  | [], hc => cases hc
  | [_], hc => cases hc
  | t :: u :: τr, hc =>
    obtain ⟨hb, e⟩ := ckif_of (show ckif _ _ = some _ from hc); cases e
    simp only [Bool.and_eq_true, bne_iff_ne] at hb
    exact o_dup2 C (dk_of hb.1.1) hb.1.2 hb.2 hk
theorem k_arraylength (C : Cx p R s0 m args c cc own nL A G sc xs L kc ks) {pc : Nat} {τs τl : List Nat} {st ls : List Int} {s : Mem} {d : Nat} {E : EntB} {h : List Nat} {ops : List Instr} {q : Int × List Int × List Int × Mem} {pc' : Nat} {τs' τl' : List Nat} (hc : ck1 own cc nL E pc τs τl h (.arraylength) = some (pc', τs', τl')) (hr : run (sem d) xs L ((.arraylength) :: ops) st ls s = some q) (k : ∀ (st' ls' : List Int) (s' : Mem), run (sem d) xs L ops st' ls' s' = some q → Wd p l e R s0 m args below meth c Q A G nL sc kc ks pc' τs' τl' st' ls' s') : Wd p l e R s0 m args below meth c Q A G nL sc kc ks pc τs τl st ls s := by
  obtain ⟨x, r, rfl, hr⟩ := p1_of (show p1 _ _ = some q from hr)
  have hk := k _ _ _ hr
  cases τs with
  | nil => cases hc
  | cons t τr =>
    obtain ⟨hb, e⟩ := ckif_of (show ckif _ _ = some _ from hc); cases e
    simp only [Bool.and_eq_true, Bool.or_eq_true, beq_iff_eq] at hb
    exact o_alen C (dk_of hb.1) (by omega) hk
theorem k_getfield (C : Cx p R s0 m args c cc own nL A G sc xs L kc ks) {pc : Nat} {τs τl : List Nat} {st ls : List Int} {s : Mem} {d : Nat} {E : EntB} {h : List Nat} {ops : List Instr} {q : Int × List Int × List Int × Mem} {pc' : Nat} {τs' τl' : List Nat} {j : Nat} (hc : ck1 own cc nL E pc τs τl h (.getfield j) = some (pc', τs', τl')) (hr : run (sem d) xs L ((.getfield j) :: ops) st ls s = some q) (k : ∀ (st' ls' : List Int) (s' : Mem), run (sem d) xs L ops st' ls' s' = some q → Wd p l e R s0 m args below meth c Q A G nL sc kc ks pc' τs' τl' st' ls' s') : Wd p l e R s0 m args below meth c Q A G nL sc kc ks pc τs τl st ls s := by
  have hc : ck_getfield own cc pc τs τl h j = some (pc', τs', τl') := hc
  obtain ⟨a, r, rfl, hr⟩ := p1_of (show p1 _ _ = some q from hr)
  have hk := k _ _ _ hr
  obtain ⟨t, τr, i, n, e1, e2, hc⟩ := ck_getfield_of hc
  subst e1 e2
  obtain ⟨hb, e⟩ := ckif_of hc; cases e
  simp only [Bool.and_eq_true, decide_eq_true_eq] at hb
  obtain ⟨⟨⟨⟨h1, h2⟩, h3⟩, h4⟩, h5⟩ := hb
  obtain ⟨g1, g2, g3⟩ := fldB_of h3
  obtain ⟨cn, rfl⟩ : ∃ cn, t = 10 + cn := ⟨t - 10, by omega⟩
  rw [show 10 + cn - 10 = cn by omega] at *
  by_cases hf : fkd cn j = 1001
  · rw [if_pos hf] at hk
    exact o_getL C (dk_of h1) g1 g2 g3 (cls_own g1 g2) hf hk
  · rw [if_neg hf] at hk
    exact o_getI C (dk_of h1) g1 g2 g3 (cls_own g1 g2) (by omega) hk
theorem k_goto_w (C : Cx p R s0 m args c cc own nL A G sc xs L kc ks) {pc : Nat} {τs τl : List Nat} {st ls : List Int} {s : Mem} {d : Nat} {E : EntB} {h : List Nat} {ops : List Instr} {q : Int × List Int × List Int × Mem} {pc' : Nat} {τs' τl' : List Nat} {o : Int} (hc : ck1 own cc nL E pc τs τl h (.goto_w o) = some (pc', τs', τl')) (hr : run (sem d) xs L ((.goto_w o) :: ops) st ls s = some q) (k : ∀ (st' ls' : List Int) (s' : Mem), run (sem d) xs L ops st' ls' s' = some q → Wd p l e R s0 m args below meth c Q A G nL sc kc ks pc' τs' τl' st' ls' s') : Wd p l e R s0 m args below meth c Q A G nL sc kc ks pc τs τl st ls s := by
  have hc : ck_goto_w own cc pc τs τl h o = some (pc', τs', τl') := hc
  obtain ⟨a, r, rfl, hr⟩ := p1_of (show p1 _ _ = some q from hr)
  have hk := k _ _ _ hr
  obtain ⟨t, τr, i, n, j, e1, e2, hc⟩ := ck_goto_w_of hc
  subst e1 e2
  obtain ⟨hb, e⟩ := ckif_of hc; cases e
  simp only [Bool.and_eq_true, decide_eq_true_eq] at hb
  obtain ⟨⟨⟨⟨h1, h2⟩, h3⟩, h4⟩, h5⟩ := hb
  obtain ⟨g1, g2, g3⟩ := fldB_of h3
  obtain ⟨cn, rfl⟩ : ∃ cn, t = 10 + cn := ⟨t - 10, by omega⟩
  rw [show 10 + cn - 10 = cn by omega] at *
  subst h4
  exact o_getR C (dk_of h1) g1 g2 g3 (cls_own g1 g2) h5 hk
theorem k_putfield (C : Cx p R s0 m args c cc own nL A G sc xs L kc ks) {pc : Nat} {τs τl : List Nat} {st ls : List Int} {s : Mem} {d : Nat} {E : EntB} {h : List Nat} {ops : List Instr} {q : Int × List Int × List Int × Mem} {pc' : Nat} {τs' τl' : List Nat} {j : Nat} (hc : ck1 own cc nL E pc τs τl h (.putfield j) = some (pc', τs', τl')) (hr : run (sem d) xs L ((.putfield j) :: ops) st ls s = some q) (k : ∀ (st' ls' : List Int) (s' : Mem), run (sem d) xs L ops st' ls' s' = some q → Wd p l e R s0 m args below meth c Q A G nL sc kc ks pc' τs' τl' st' ls' s') : Wd p l e R s0 m args below meth c Q A G nL sc kc ks pc τs τl st ls s := by
  have hc : ck_putfield own cc pc τs τl h j = some (pc', τs', τl') := hc
  obtain ⟨a, v, r, rfl, hr⟩ := p2_of (show p2 _ _ = some q from hr)
  have hk := k _ _ _ hr
  obtain ⟨u, t, τr, i, n, e1, e2, hc⟩ := ck_putfield_of hc
  subst e1 e2
  obtain ⟨hb, e⟩ := ckif_of hc; cases e
  simp only [Bool.and_eq_true, decide_eq_true_eq, Bool.or_eq_true, beq_iff_eq] at hb
  obtain ⟨⟨⟨h1, h2⟩, h3⟩, h4⟩ := hb
  obtain ⟨g1, g2, g3⟩ := fldB_of h3
  obtain ⟨cn, rfl⟩ : ∃ cn, t = 10 + cn := ⟨t - 10, by omega⟩
  rw [show 10 + cn - 10 = cn by omega] at *
  have hkd := cls_kind g1 g2
  rcases h4 with ⟨rfl, h4⟩ | ⟨rfl, h4⟩
  · exact o_putI C (dk_of h1) g1 g2 g3 (cls_own g1 g2) (hkd.1 h4).2 (hkd.1 h4).1 h4 hk
  · exact o_putL C (dk_of h1) g1 g2 g3 (cls_own g1 g2) (hkd.2.1 h4).2 (hkd.2.1 h4).1 h4 hk
theorem k_putstatic (C : Cx p R s0 m args c cc own nL A G sc xs L kc ks) {pc : Nat} {τs τl : List Nat} {st ls : List Int} {s : Mem} {d : Nat} {E : EntB} {h : List Nat} {ops : List Instr} {q : Int × List Int × List Int × Mem} {pc' : Nat} {τs' τl' : List Nat} {j : Nat} (hc : ck1 own cc nL E pc τs τl h (.putstatic j) = some (pc', τs', τl')) (hr : run (sem d) xs L ((.putstatic j) :: ops) st ls s = some q) (k : ∀ (st' ls' : List Int) (s' : Mem), run (sem d) xs L ops st' ls' s' = some q → Wd p l e R s0 m args below meth c Q A G nL sc kc ks pc' τs' τl' st' ls' s') : Wd p l e R s0 m args below meth c Q A G nL sc kc ks pc τs τl st ls s := by
  have hc : ck_putstatic own cc pc τs τl h j = some (pc', τs', τl') := hc
  obtain ⟨a, v, r, rfl, hr⟩ := p2_of (show p2 _ _ = some q from hr)
  obtain ⟨hz, hr⟩ := ite_of hr
  have hk := k _ _ _ hr
  obtain ⟨u, t, τr, i, n, e1, e2, hc⟩ := ck_putstatic_of hc
  subst e1 e2
  obtain ⟨hb, e⟩ := ckif_of hc; cases e
  simp only [Bool.and_eq_true, decide_eq_true_eq, beq_iff_eq] at hb
  obtain ⟨⟨⟨⟨h1, h2⟩, h3⟩, rfl⟩, h4⟩ := hb
  obtain ⟨g1, g2, g3⟩ := fldB_of h3
  obtain ⟨cn, rfl⟩ : ∃ cn, t = 10 + cn := ⟨t - 10, by omega⟩
  rw [show 10 + cn - 10 = cn by omega] at *
  have hkd := cls_kind g1 g2
  exact o_putZ C (dk_of h1) g1 g2 g3 (cls_own g1 g2) (hkd.2.2 h4).2 (hkd.2.2 h4).1 h4 hz hk
theorem ck_math_of {own : String} {cc : ByteArray} {pc pc' : Nat} {τs τl h τs' τl' pops push : List Nat} {y : MethodName} (hc : ck_math own cc pc τs τl h y pops push = some (pc', τs', τl')) : ∃ (i : Nat) (τr : List Nat), decode cc pc = .ok (.invokestatic i, 3) ∧ Cond.methodLink own i y ∈ lw_g ∧ cats τr ≤ 100 ∧ pc' = pc + 3 ∧ τl' = τl ∧ τs = pops ++ τr ∧ τs' = push ++ τr := by
  unfold ck_math at hc
  split at hc
  · rename_i i n
    split at hc
    · rename_i hb
      simp only [Bool.and_eq_true, decide_eq_true_eq] at hb
      obtain ⟨hd, e1, e2, τr, e3, e4⟩ := ckS_of hc
      rw [e3, List.drop_left] at hb
      exact ⟨i, τr, hd, inG_mem hb.1, hb.2, e1, e2, e3, e4⟩
    · cases hc
  · cases hc
theorem ck_str_of {own : String} {cc : ByteArray} {pc pc' : Nat} {τs τl h τs' τl' pops : List Nat} {y : MethodName} (hc : ck_str own cc pc τs τl h y pops = some (pc', τs', τl')) : ∃ (i : Nat) (τr : List Nat), decode cc pc = .ok (.invokevirtual i, 3) ∧ Cond.methodLink own i y ∈ lw_g ∧ cats τr ≤ 8 ∧ pc' = pc + 3 ∧ τl' = τl ∧ τs = pops ++ τr ∧ τs' = [0] ++ τr := by
  unfold ck_str at hc
  split at hc
  · rename_i i n
    split at hc
    · rename_i hb
      simp only [Bool.and_eq_true, decide_eq_true_eq] at hb
      obtain ⟨hd, e1, e2, τr, e3, e4⟩ := ckS_of hc
      rw [e3, List.drop_left] at hb
      exact ⟨i, τr, hd, inG_mem hb.1, hb.2, e1, e2, e3, e4⟩
    · cases hc
  · cases hc
theorem k_fmul (C : Cx p R s0 m args c cc own nL A G sc xs L kc ks) {pc : Nat} {τs τl : List Nat} {st ls : List Int} {s : Mem} {d : Nat} {E : EntB} {h : List Nat} {ops : List Instr} {q : Int × List Int × List Int × Mem} {pc' : Nat} {τs' τl' : List Nat} (hc : ck1 own cc nL E pc τs τl h (.fmul) = some (pc', τs', τl')) (hr : run (sem d) xs L ((.fmul) :: ops) st ls s = some q) (k : ∀ (st' ls' : List Int) (s' : Mem), run (sem d) xs L ops st' ls' s' = some q → Wd p l e R s0 m args below meth c Q A G nL sc kc ks pc' τs' τl' st' ls' s') : Wd p l e R s0 m args below meth c Q A G nL sc kc ks pc τs τl st ls s := by
  obtain ⟨i, τr, hd, h1, h2, rfl, rfl, rfl, rfl⟩ := ck_math_of (show ck_math _ _ _ _ _ _ _ _ _ = some _ from hc)
  obtain ⟨x, y, r, rfl, hr⟩ := p2_of (show p2 _ _ = some q from hr)
  exact o_mmin C hd h2 h1 (k _ _ _ hr)
theorem k_fadd (C : Cx p R s0 m args c cc own nL A G sc xs L kc ks) {pc : Nat} {τs τl : List Nat} {st ls : List Int} {s : Mem} {d : Nat} {E : EntB} {h : List Nat} {ops : List Instr} {q : Int × List Int × List Int × Mem} {pc' : Nat} {τs' τl' : List Nat} (hc : ck1 own cc nL E pc τs τl h (.fadd) = some (pc', τs', τl')) (hr : run (sem d) xs L ((.fadd) :: ops) st ls s = some q) (k : ∀ (st' ls' : List Int) (s' : Mem), run (sem d) xs L ops st' ls' s' = some q → Wd p l e R s0 m args below meth c Q A G nL sc kc ks pc' τs' τl' st' ls' s') : Wd p l e R s0 m args below meth c Q A G nL sc kc ks pc τs τl st ls s := by
  obtain ⟨i, τr, hd, h1, h2, rfl, rfl, rfl, rfl⟩ := ck_math_of (show ck_math _ _ _ _ _ _ _ _ _ = some _ from hc)
  obtain ⟨x, y, r, rfl, hr⟩ := p2_of (show p2 _ _ = some q from hr)
  exact o_mmax C hd h2 h1 (k _ _ _ hr)
theorem k_fdiv (C : Cx p R s0 m args c cc own nL A G sc xs L kc ks) {pc : Nat} {τs τl : List Nat} {st ls : List Int} {s : Mem} {d : Nat} {E : EntB} {h : List Nat} {ops : List Instr} {q : Int × List Int × List Int × Mem} {pc' : Nat} {τs' τl' : List Nat} (hc : ck1 own cc nL E pc τs τl h (.fdiv) = some (pc', τs', τl')) (hr : run (sem d) xs L ((.fdiv) :: ops) st ls s = some q) (k : ∀ (st' ls' : List Int) (s' : Mem), run (sem d) xs L ops st' ls' s' = some q → Wd p l e R s0 m args below meth c Q A G nL sc kc ks pc' τs' τl' st' ls' s') : Wd p l e R s0 m args below meth c Q A G nL sc kc ks pc τs τl st ls s := by
  obtain ⟨i, τr, hd, h1, h2, rfl, rfl, rfl, rfl⟩ := ck_math_of (show ck_math _ _ _ _ _ _ _ _ _ = some _ from hc)
  obtain ⟨x, r, rfl, hr⟩ := p1_of (show p1 _ _ = some q from hr)
  exact o_mabs C hd h2 h1 (k _ _ _ hr)
theorem k_aastore (C : Cx p R s0 m args c cc own nL A G sc xs L kc ks) {pc : Nat} {τs τl : List Nat} {st ls : List Int} {s : Mem} {d : Nat} {E : EntB} {h : List Nat} {ops : List Instr} {q : Int × List Int × List Int × Mem} {pc' : Nat} {τs' τl' : List Nat} (hc : ck1 own cc nL E pc τs τl h (.aastore) = some (pc', τs', τl')) (hr : run (sem d) xs L ((.aastore) :: ops) st ls s = some q) (k : ∀ (st' ls' : List Int) (s' : Mem), run (sem d) xs L ops st' ls' s' = some q → Wd p l e R s0 m args below meth c Q A G nL sc kc ks pc' τs' τl' st' ls' s') : Wd p l e R s0 m args below meth c Q A G nL sc kc ks pc τs τl st ls s := by
  obtain ⟨a, x, d', y, n, r, rfl, hr⟩ := p5_of (show p5 _ _ = some q from hr)
  obtain ⟨hx, hr⟩ := ite_of hr
  have hk := k _ _ _ hr
  have hc : (if τs[2]? = some 2 then ck_math own cc pc τs τl h arraycopyName [0, 0, 2, 0, 2] [] else ck_math own cc pc τs τl h arraycopyName [0, 0, 3, 0, 3] []) = some (pc', τs', τl') := hc
  split at hc
  · obtain ⟨i, τr, hd, h1, h2, rfl, rfl, rfl, rfl⟩ := ck_math_of hc
    exact o_copy2 C hd h2 h1 hx hk
  · obtain ⟨i, τr, hd, h1, h2, rfl, rfl, rfl, rfl⟩ := ck_math_of hc
    exact o_copy3 C hd h2 h1 hx hk
theorem k_l2f (C : Cx p R s0 m args c cc own nL A G sc xs L kc ks) {pc : Nat} {τs τl : List Nat} {st ls : List Int} {s : Mem} {d : Nat} {E : EntB} {h : List Nat} {ops : List Instr} {q : Int × List Int × List Int × Mem} {pc' : Nat} {τs' τl' : List Nat} (hR : 4 ≤ R.frames) (hc : ck1 own cc nL E pc τs τl h (.l2f) = some (pc', τs', τl')) (hr : run (sem d) xs L ((.l2f) :: ops) st ls s = some q) (k : ∀ (st' ls' : List Int) (s' : Mem), run (sem d) xs L ops st' ls' s' = some q → Wd p l e R s0 m args below meth c Q A G nL sc kc ks pc' τs' τl' st' ls' s') : Wd p l e R s0 m args below meth c Q A G nL sc kc ks pc τs τl st ls s := by
  obtain ⟨i, τr, hd, h1, h2, rfl, rfl, rfl, rfl⟩ := ck_str_of (show ck_str _ _ _ _ _ _ _ _ = some _ from hc)
  obtain ⟨x, r, rfl, hr⟩ := p1_of (show p1 _ _ = some q from hr)
  exact o_l2f C hR hd h2 h1 (k _ _ _ hr)
theorem k_f2d (C : Cx p R s0 m args c cc own nL A G sc xs L kc ks) {pc : Nat} {τs τl : List Nat} {st ls : List Int} {s : Mem} {d : Nat} {E : EntB} {h : List Nat} {ops : List Instr} {q : Int × List Int × List Int × Mem} {pc' : Nat} {τs' τl' : List Nat} (hR : 4 ≤ R.frames) (hc : ck1 own cc nL E pc τs τl h (.f2d) = some (pc', τs', τl')) (hr : run (sem d) xs L ((.f2d) :: ops) st ls s = some q) (k : ∀ (st' ls' : List Int) (s' : Mem), run (sem d) xs L ops st' ls' s' = some q → Wd p l e R s0 m args below meth c Q A G nL sc kc ks pc' τs' τl' st' ls' s') : Wd p l e R s0 m args below meth c Q A G nL sc kc ks pc τs τl st ls s := by
  obtain ⟨i, τr, hd, h1, h2, rfl, rfl, rfl, rfl⟩ := ck_str_of (show ck_str _ _ _ _ _ _ _ _ = some _ from hc)
  obtain ⟨x, y, r, rfl, hr⟩ := p2_of (show p2 _ _ = some q from hr)
  obtain ⟨hy, hr⟩ := ite_of hr
  exact o_f2d C hR hd h2 h1 hy (k _ _ _ hr)
theorem k_call (C : Cx p R s0 m args c cc own nL A G sc xs L kc ks) {pc : Nat} {τs τl : List Nat} {st ls : List Int} {s : Mem} {d : Nat} {E : EntB} {h : List Nat} {ops : List Instr} {q : Int × List Int × List Int × Mem} {pc' : Nat} {τs' τl' : List Nat} {mi n : Nat} (hK : ∀ mi, mi < nM → Kt l A G d mi) (hM : ∀ mi, mi < nM → mck mi = true) (hR : d + 9 ≤ R.frames ∧ 360 + 60 * d ≤ R.locals) (hc : ck1 own cc nL E pc τs τl h (.invokeinterface mi n) = some (pc', τs', τl')) (hr : run (sem d) xs L ((.invokeinterface mi n) :: ops) st ls s = some q) (k : ∀ (st' ls' : List Int) (s' : Mem), run (sem d) xs L ops st' ls' s' = some q → Wd p l e R s0 m args below meth c Q A G nL sc kc ks pc' τs' τl' st' ls' s') : Wd p l e R s0 m args below meth c Q A G nL sc kc ks pc τs τl st ls s := by
  have hc : ck_call own cc pc τs τl h mi n = some (pc', τs', τl') := hc
  have hr : (match sem d mi (st.take (n / 2)).reverse s with
      | some (v, s') => run (sem d) xs L ops (if n % 2 = 1 then st.drop (n / 2) else v :: st.drop (n / 2)) ls s'
      | none => none) = some q := hr
  cases hsem : sem d mi (st.take (n / 2)).reverse s with
  | none => rw [hsem] at hr; cases hr
  | some vt =>
    obtain ⟨v, t⟩ := vt
    rw [hsem] at hr
    have hk := k _ _ _ hr
    obtain ⟨i, ti, v0, e1, hb, e⟩ := ck_call_of hc
    subst e1
    · cases e
      unfold callB at hb
      simp only [Bool.and_eq_true, decide_eq_true_eq] at hb
      obtain ⟨⟨⟨⟨⟨b1, b2⟩, b3⟩, b4⟩, b5⟩, b6⟩ := hb
      obtain ⟨τr, hτ⟩ := List.isPrefixOf_iff_prefix.mp b4
      have hlr : (jT mi).reverse.length = n / 2 := by rw [List.length_reverse]; exact b2.symm
      have hdr : τs.drop (n / 2) = τr := by rw [← hτ, ← hlr, List.drop_left]
      rw [hdr] at b5 hk
      intro hs hl hm H locs lsC hP hD hS hv
      rw [← hτ] at hs
      obtain ⟨s1, s2⟩ := okl_split (n / 2) _ _ _ hlr hs
      obtain ⟨-, s3⟩ := stk_rev (G := G) _ _ s1
      rw [List.reverse_reverse] at s3
      have hk2 : Wd p l e R s0 m args below meth c Q A G nL sc kc ks (pc + 3) ((if jP mi = 98 then [] else [jP mi]) ++ τr) τl ((if jP mi = 98 then [] else [v]) ++ st.drop (n / 2)) ls t := by
        by_cases h98 : jP mi = 98
        · rw [if_pos h98] at hk ⊢
          rw [if_pos (b3.mpr h98)] at hk
          rw [if_pos h98]; exact hk
        · rw [if_neg h98] at hk ⊢
          rw [if_neg (fun z => h98 (b3.mp z))] at hk
          rw [if_neg h98]; exact hk
      have goal : Wd p l e R s0 m args below meth c Q A G nL sc kc ks pc ((jT mi).reverse ++ τr) τl ((st.take (n / 2)).reverse.reverse ++ st.drop (n / 2)) ls s := by
        by_cases h0 : v0 = 0
        · rw [if_pos h0] at b6
          simp only [Bool.and_eq_true] at b6
          exact o_callS C (hK mi b1) hR (hM mi b1) hsem s3 b5 b6.1.1 (dk_of b6.1.2) (inG_mem b6.2) hk2
        · rw [if_neg h0] at b6
          by_cases h1 : v0 = 1
          · rw [if_pos h1] at b6
            simp only [Bool.and_eq_true, Bool.not_eq_true'] at b6
            exact o_callV C (hK mi b1) hR (hM mi b1) hsem s3 b5 b6.1.1 (dk_of b6.1.2) (inG_mem b6.2) hk2
          · rw [if_neg h1] at b6
            simp only [Bool.and_eq_true, Bool.not_eq_true', beq_iff_eq, decide_eq_true_eq] at b6
            obtain ⟨⟨⟨⟨c1, c2⟩, c3⟩, c4⟩, c5⟩ := b6
            exact o_callN C (hK mi b1) hR (hM mi b1) hsem s3 b5 c1 (dk_of c2) ⟨c3, c4⟩ c5 hk2
      rw [List.reverse_reverse, List.take_append_drop, hτ] at goal
      rw [hτ] at hs
      exact goal hs hl hm H locs lsC hP hD hS hv
theorem k_ifCond (C : Cx p R s0 m args c cc own nL A G sc xs L kc ks) {pc : Nat} {τs τl : List Nat} {st ls : List Int} {s : Mem} {d : Nat} {E : EntB} {h : List Nat} {ops : List Instr} {q : Int × List Int × List Int × Mem} {pc' : Nat} {τs' τl' : List Nat} {cn : ClassFile.Cond} {tg : Int} (hE : ∀ (n : Nat) (a b : List Nat), q.1 = (n : Int) → entO E n = some (a, b) → Wd p l e R s0 m args below meth c Q A G nL sc kc ks n a b q.2.1 q.2.2.1 q.2.2.2) (hc : ck1 own cc nL E pc τs τl h (.ifCond cn tg) = some (pc', τs', τl')) (hr : run (sem d) xs L ((.ifCond cn tg) :: ops) st ls s = some q) (k : ∀ (st' ls' : List Int) (s' : Mem), run (sem d) xs L ops st' ls' s' = some q → Wd p l e R s0 m args below meth c Q A G nL sc kc ks pc' τs' τl' st' ls' s') : Wd p l e R s0 m args below meth c Q A G nL sc kc ks pc τs τl st ls s := by
  have hc : ck_if cc E pc τs τl (.ifCond cn (tg - pc)) tg [0] = some (pc', τs', τl') := hc
  unfold ck_if at hc
  split at hc
  · rename_i ht
    obtain ⟨hd, e1, e2, τr, e3, e4⟩ := ckS_of hc
    rw [e3, List.drop_left] at ht
    have e4 : τs' = τr := e4
    subst e1 e2 e3 e4
    obtain ⟨n, b, en, hen, hw⟩ := tgo_of ht
    subst en
    obtain ⟨x, r, rfl, hr⟩ := p1_of (show p1 _ _ = some q from hr)
    have hk := k r ls s
    have ho : (pc : Int) + ((n : Int) - pc) = (n : Int) := by omega
    have go : some ((n : Int), r, ls, s) = some q → Wd p l e R s0 m args below meth c Q A G nL sc kc ks n τs' τl' r ls s := by
      intro e
      cases e
      exact o_wk hw (hE n τs' b rfl hen)
    cases cn
    · have hr : (if cmp_ .eq x 0 = true then some ((n : Int), r, ls, s) else run (sem d) xs L ops r ls s) = some q := hr
      simp only [cmp_, decide_eq_true_eq, ne_eq] at hr
      refine o_if_eq C hd ho (fun z => go ?_) (fun z => hk ?_)
      · rw [if_pos z] at hr; exact hr
      · rw [if_neg z] at hr; exact hr
    · have hr : (if cmp_ .ne x 0 = true then some ((n : Int), r, ls, s) else run (sem d) xs L ops r ls s) = some q := hr
      simp only [cmp_, decide_eq_true_eq, ne_eq] at hr
      refine o_if_ne C hd ho (fun z => go ?_) (fun z => hk ?_)
      · rw [if_pos z] at hr; exact hr
      · rw [if_neg z] at hr; exact hr
    · have hr : (if cmp_ .lt x 0 = true then some ((n : Int), r, ls, s) else run (sem d) xs L ops r ls s) = some q := hr
      simp only [cmp_, decide_eq_true_eq, ne_eq] at hr
      refine o_if_lt C hd ho (fun z => go ?_) (fun z => hk ?_)
      · rw [if_pos z] at hr; exact hr
      · rw [if_neg z] at hr; exact hr
    · have hr : (if cmp_ .ge x 0 = true then some ((n : Int), r, ls, s) else run (sem d) xs L ops r ls s) = some q := hr
      simp only [cmp_, decide_eq_true_eq, ne_eq] at hr
      refine o_if_ge C hd ho (fun z => go ?_) (fun z => hk ?_)
      · rw [if_pos z] at hr; exact hr
      · rw [if_neg z] at hr; exact hr
    · have hr : (if cmp_ .gt x 0 = true then some ((n : Int), r, ls, s) else run (sem d) xs L ops r ls s) = some q := hr
      simp only [cmp_, decide_eq_true_eq, ne_eq] at hr
      refine o_if_gt C hd ho (fun z => go ?_) (fun z => hk ?_)
      · rw [if_pos z] at hr; exact hr
      · rw [if_neg z] at hr; exact hr
    · have hr : (if cmp_ .le x 0 = true then some ((n : Int), r, ls, s) else run (sem d) xs L ops r ls s) = some q := hr
      simp only [cmp_, decide_eq_true_eq, ne_eq] at hr
      refine o_if_le C hd ho (fun z => go ?_) (fun z => hk ?_)
      · rw [if_pos z] at hr; exact hr
      · rw [if_neg z] at hr; exact hr
  · cases hc
theorem k_if_icmp (C : Cx p R s0 m args c cc own nL A G sc xs L kc ks) {pc : Nat} {τs τl : List Nat} {st ls : List Int} {s : Mem} {d : Nat} {E : EntB} {h : List Nat} {ops : List Instr} {q : Int × List Int × List Int × Mem} {pc' : Nat} {τs' τl' : List Nat} {cn : ClassFile.Cond} {tg : Int} (hE : ∀ (n : Nat) (a b : List Nat), q.1 = (n : Int) → entO E n = some (a, b) → Wd p l e R s0 m args below meth c Q A G nL sc kc ks n a b q.2.1 q.2.2.1 q.2.2.2) (hc : ck1 own cc nL E pc τs τl h (.if_icmp cn tg) = some (pc', τs', τl')) (hr : run (sem d) xs L ((.if_icmp cn tg) :: ops) st ls s = some q) (k : ∀ (st' ls' : List Int) (s' : Mem), run (sem d) xs L ops st' ls' s' = some q → Wd p l e R s0 m args below meth c Q A G nL sc kc ks pc' τs' τl' st' ls' s') : Wd p l e R s0 m args below meth c Q A G nL sc kc ks pc τs τl st ls s := by
  have hc : ck_if cc E pc τs τl (.if_icmp cn (tg - pc)) tg [0, 0] = some (pc', τs', τl') := hc
  unfold ck_if at hc
  split at hc
  · rename_i ht
    obtain ⟨hd, e1, e2, τr, e3, e4⟩ := ckS_of hc
    rw [e3, List.drop_left] at ht
    have e4 : τs' = τr := e4
    subst e1 e2 e3 e4
    obtain ⟨n, b, en, hen, hw⟩ := tgo_of ht
    subst en
    obtain ⟨x, y, r, rfl, hr⟩ := p2_of (show p2 _ _ = some q from hr)
    have hk := k r ls s
    have ho : (pc : Int) + ((n : Int) - pc) = (n : Int) := by omega
    have go : some ((n : Int), r, ls, s) = some q → Wd p l e R s0 m args below meth c Q A G nL sc kc ks n τs' τl' r ls s := by
      intro e
      cases e
      exact o_wk hw (hE n τs' b rfl hen)
    cases cn
    · have hr : (if cmp_ .eq x y = true then some ((n : Int), r, ls, s) else run (sem d) xs L ops r ls s) = some q := hr
      simp only [cmp_, decide_eq_true_eq, ne_eq] at hr
      refine o_ic_eq C hd ho (fun z => go ?_) (fun z => hk ?_)
      · rw [if_pos z] at hr; exact hr
      · rw [if_neg z] at hr; exact hr
    · have hr : (if cmp_ .ne x y = true then some ((n : Int), r, ls, s) else run (sem d) xs L ops r ls s) = some q := hr
      simp only [cmp_, decide_eq_true_eq, ne_eq] at hr
      refine o_ic_ne C hd ho (fun z => go ?_) (fun z => hk ?_)
      · rw [if_pos z] at hr; exact hr
      · rw [if_neg z] at hr; exact hr
    · have hr : (if cmp_ .lt x y = true then some ((n : Int), r, ls, s) else run (sem d) xs L ops r ls s) = some q := hr
      simp only [cmp_, decide_eq_true_eq, ne_eq] at hr
      refine o_ic_lt C hd ho (fun z => go ?_) (fun z => hk ?_)
      · rw [if_pos z] at hr; exact hr
      · rw [if_neg z] at hr; exact hr
    · have hr : (if cmp_ .ge x y = true then some ((n : Int), r, ls, s) else run (sem d) xs L ops r ls s) = some q := hr
      simp only [cmp_, decide_eq_true_eq, ne_eq] at hr
      refine o_ic_ge C hd ho (fun z => go ?_) (fun z => hk ?_)
      · rw [if_pos z] at hr; exact hr
      · rw [if_neg z] at hr; exact hr
    · have hr : (if cmp_ .gt x y = true then some ((n : Int), r, ls, s) else run (sem d) xs L ops r ls s) = some q := hr
      simp only [cmp_, decide_eq_true_eq, ne_eq] at hr
      refine o_ic_gt C hd ho (fun z => go ?_) (fun z => hk ?_)
      · rw [if_pos z] at hr; exact hr
      · rw [if_neg z] at hr; exact hr
    · have hr : (if cmp_ .le x y = true then some ((n : Int), r, ls, s) else run (sem d) xs L ops r ls s) = some q := hr
      simp only [cmp_, decide_eq_true_eq, ne_eq] at hr
      refine o_ic_le C hd ho (fun z => go ?_) (fun z => hk ?_)
      · rw [if_pos z] at hr; exact hr
      · rw [if_neg z] at hr; exact hr
  · cases hc
end Sim
