/-! ===== the abstract machine: memory of ints by cell and place, operations with resolved operands ===== -/
abbrev Mem : Type := Int → Int → Int
abbrev CS : Type := Nat → List Int → Mem → Option (Int × Mem)
abbrev Rs : Type := Option (Int × List Int × List Int × Mem)
abbrev Ops : Type := List (Int × List Instr)
def wr (x : Int) : Int := (x + 2147483648) % 4294967296 - 2147483648
def wl (x : Int) : Int := (x + 9223372036854775808) % 18446744073709551616 - 9223372036854775808
def w8 (x : Int) : Int := (x + 128) % 256 - 128
def w16 (x : Int) : Int := (x + 32768) % 65536 - 32768
def mset (s : Mem) (a i v : Int) : Mem := fun b => if b = a then (fun j => if j = i then v else s a j) else s b
def mcopy (s : Mem) (a p d q n : Int) : Mem := fun b => if b = d then (fun j => if q ≤ j ∧ j < q + n then s a (p + (j - q)) else s d j) else s b
def lget : List Int → Nat → Int
  | [], _ => 0
  | a :: _, 0 => a
  | _ :: l, n + 1 => lget l n
def lset : List Int → Nat → Int → List Int
  | [], _, _ => []
  | _ :: l, 0, v => v :: l
  | a :: l, n + 1, v => a :: lset l n v
def iand_ (x y : Int) : Int := (Int32.ofInt x &&& Int32.ofInt y).toInt
def ior_ (x y : Int) : Int := (Int32.ofInt x ||| Int32.ofInt y).toInt
def ixor_ (x y : Int) : Int := (Int32.ofInt x ^^^ Int32.ofInt y).toInt
def ishl_ (x y : Int) : Int := (Int32.ofInt x <<< (Int32.ofInt y &&& 31)).toInt
def ishr_ (x y : Int) : Int := (Int32.ofInt x >>> (Int32.ofInt y &&& 31)).toInt
def iushr_ (x y : Int) : Int := ((Int32.ofInt x).toUInt32 >>> ((Int32.ofInt y).toUInt32 &&& Int32.toUInt32 31)).toInt32.toInt
def land_ (x y : Int) : Int := (Int64.ofInt x &&& Int64.ofInt y).toInt
def lor_ (x y : Int) : Int := (Int64.ofInt x ||| Int64.ofInt y).toInt
def lshl_ (x y : Int) : Int := (Int64.ofInt x <<< ((Int32.ofInt y).toInt64 &&& 63)).toInt
def lcmp_ (x y : Int) : Int := if x < y then -1 else if x = y then 0 else 1
def cmp_ (c : ClassFile.Cond) (x y : Int) : Bool := match c with
  | .eq => decide (x = y)
  | .ne => decide (x ≠ y)
  | .lt => decide (x < y)
  | .ge => decide (y ≤ x)
  | .gt => decide (y < x)
  | .le => decide (x ≤ y)
def p1 (st : List Int) (k : Int → List Int → Rs) : Rs := match st with
  | x :: st => k x st
  | _ => none
def p2 (st : List Int) (k : Int → Int → List Int → Rs) : Rs := match st with
  | y :: x :: st => k x y st
  | _ => none
def p3 (st : List Int) (k : Int → Int → Int → List Int → Rs) : Rs := match st with
  | z :: y :: x :: st => k x y z st
  | _ => none
def p5 (st : List Int) (k : Int → Int → Int → Int → Int → List Int → Rs) : Rs := match st with
  | v :: u :: z :: y :: x :: st => k x y z u v st
  | _ => none
def swk : List (Int × Int) → Int → Int → (Int → Rs) → Rs
  | [], d, _, k => k d
  | (a, t) :: r, d, x, k => if x = a then k t else swk r d x k
def keys : List Int := [32, 111, 100, 100, 115, 32, 112, 108, 97, 99, 101, 32, 119, 97, 121, 32, 115, 108, 97, 116, 101, 32, 99, 97, 108, 108, 101, 114, 32, 99, 114, 121, 32, 99, 97, 108, 108, 32, 108, 111, 110, 103, 32, 108, 111, 115, 101, 115, 32, 97, 116, 32, 115, 97, 121, 32, 104, 117, 115, 104, 32, 119, 97, 108, 107, 32, 114, 101, 99, 111, 114, 100, 32, 97, 110, 121, 32, 119, 104, 101, 110, 32, 108, 111, 111, 112, 32, 101, 110, 100, 32, 115, 116, 111, 112, 32, 104, 101, 97, 114, 100, 32, 99, 97, 108, 108, 115, 32]
def words : List Int := [0x6f646473, 0x706c616365, 0x776179, 0x6c6f6e67, 0x6c6f736573, 0x736c617465, 0x6174, 0x63616c6c6572, 0x637279, 0x63616c6c, 0x736179, 0x68757368, 0x77616c6b, 0x7265636f7264, 0x616e79, 0x7768656e, 0x6865617264, 0x63616c6c73, 0x6c6f6f70, 0x656e64, 0x73746f70]
/-- the length of the array that is cell k -/
def alen (k : Int) : Int := lget layLen k.toNat
def run (cs : CS) (xs : Int → Int) (L : Int) : List Instr → List Int → List Int → Mem → Rs
  | [], _, _, _ => none
  | i :: l, st, ls, s => match i with
    | .sipush v => run cs xs L l (v :: st) ls s
    | .bipush v => run cs xs L l (v :: st) ls s
    | .ldc _ => run cs xs L l (0 :: st) ls s
    | .getstatic _ => run cs xs L l (0 :: st) ls s
    | .iload k => run cs xs L l (lget ls k :: st) ls s
    | .lload k => run cs xs L l (lget ls k :: st) ls s
    | .aload k => run cs xs L l (lget ls k :: st) ls s
    | .istore k => p1 st fun x st => run cs xs L l st (lset ls k x) s
    | .lstore k => p1 st fun x st => run cs xs L l st (lset ls k x) s
    | .astore k => p1 st fun x st => run cs xs L l st (lset ls k x) s
    | .iinc k n => run cs xs L l st (lset ls k (wr (lget ls k + n))) s
    | .iadd => p2 st fun x y st => run cs xs L l (wr (x + y) :: st) ls s
    | .isub => p2 st fun x y st => run cs xs L l (wr (x - y) :: st) ls s
    | .imul => p2 st fun x y st => run cs xs L l (wr (x * y) :: st) ls s
    | .idiv => p2 st fun x y st => if y = 0 then none else run cs xs L l (wr (x.tdiv y) :: st) ls s
    | .irem => p2 st fun x y st => if y = 0 then none else run cs xs L l (x.tmod y :: st) ls s
    | .ineg => p1 st fun x st => run cs xs L l (wr (-x) :: st) ls s
    | .iand => p2 st fun x y st => run cs xs L l (iand_ x y :: st) ls s
    | .ior => p2 st fun x y st => run cs xs L l (ior_ x y :: st) ls s
    | .ixor => p2 st fun x y st => run cs xs L l (ixor_ x y :: st) ls s
    | .ishl => p2 st fun x y st => run cs xs L l (ishl_ x y :: st) ls s
    | .ishr => p2 st fun x y st => run cs xs L l (ishr_ x y :: st) ls s
    | .iushr => p2 st fun x y st => run cs xs L l (iushr_ x y :: st) ls s
    | .ladd => p2 st fun x y st => run cs xs L l (wl (x + y) :: st) ls s
    | .lsub => p2 st fun x y st => run cs xs L l (wl (x - y) :: st) ls s
    | .lmul => p2 st fun x y st => run cs xs L l (wl (x * y) :: st) ls s
    | .ldiv => p2 st fun x y st => if y = 0 then none else run cs xs L l (wl (x.tdiv y) :: st) ls s
    | .lrem => p2 st fun x y st => if y = 0 then none else run cs xs L l (x.tmod y :: st) ls s
    | .land => p2 st fun x y st => run cs xs L l (land_ x y :: st) ls s
    | .lor => p2 st fun x y st => run cs xs L l (lor_ x y :: st) ls s
    | .lshl => p2 st fun x y st => run cs xs L l (lshl_ x y :: st) ls s
    | .lcmp => p2 st fun x y st => run cs xs L l (lcmp_ x y :: st) ls s
    | .i2l => p1 st fun x st => run cs xs L l (x :: st) ls s
    | .l2i => p1 st fun x st => run cs xs L l (wr x :: st) ls s
    | .i2b => p1 st fun x st => run cs xs L l (w8 x :: st) ls s
    | .i2s => p1 st fun x st => run cs xs L l (w16 x :: st) ls s
    | .pop => p1 st fun _ st => run cs xs L l st ls s
    | .dup => p1 st fun x st => run cs xs L l (x :: x :: st) ls s
    | .dup_x1 => p2 st fun x y st => run cs xs L l (y :: x :: y :: st) ls s
    | .dup2 => p2 st fun x y st => run cs xs L l (y :: x :: y :: x :: st) ls s
    | .getfield j => p1 st fun a st => run cs xs L l (s a j :: st) ls s
    | .goto_w o => p1 st fun a st => run cs xs L l ((a + o) :: st) ls s
    | .putfield j => p2 st fun a v st => run cs xs L l st ls (mset s a j v)
    | .putstatic j => p2 st fun a v st => if v = 0 ∨ v = 1 then run cs xs L l st ls (mset s a j v) else none
    | .iaload => p2 st fun a i st => if 0 ≤ i ∧ i < alen a then run cs xs L l (s a i :: st) ls s else none
    | .laload => p2 st fun a i st => if 0 ≤ i ∧ i < alen a then run cs xs L l (s a i :: st) ls s else none
    | .baload => p2 st fun a i st => if 0 ≤ i ∧ i < alen a then run cs xs L l (s a i :: st) ls s else none
    | .saload => p2 st fun _ i st => if 0 ≤ i ∧ i < L then run cs xs L l (xs i :: st) ls s else none
    | .faload => p2 st fun _ i st => if 0 ≤ i ∧ i < 21 then run cs xs L l (lget words i.toNat :: st) ls s else none
    | .iastore => p3 st fun a i v st => if 0 ≤ i ∧ i < alen a then run cs xs L l st ls (mset s a i v) else none
    | .lastore => p3 st fun a i v st => if 0 ≤ i ∧ i < alen a then run cs xs L l st ls (mset s a i v) else none
    | .bastore => p3 st fun a i v st => if 0 ≤ i ∧ i < alen a then run cs xs L l st ls (mset s a i (w8 v)) else none
    | .arraylength => p1 st fun a st => run cs xs L l (alen a :: st) ls s
    | .i2f => p1 st fun _ st => run cs xs L l (L :: st) ls s
    | .fneg => p1 st fun _ st => run cs xs L l (21 :: st) ls s
    | .l2f => p1 st fun _ st => run cs xs L l (108 :: st) ls s
    | .f2d => p2 st fun _ i st => if 0 ≤ i ∧ i < 108 then run cs xs L l (lget keys i.toNat :: st) ls s else none
    | .fmul => p2 st fun x y st => run cs xs L l (min x y :: st) ls s
    | .fadd => p2 st fun x y st => run cs xs L l (max x y :: st) ls s
    | .fdiv => p1 st fun x st => run cs xs L l (wr (if x < 0 then -x else x) :: st) ls s
    | .aastore => p5 st fun a p d q n st => if 0 ≤ p ∧ 0 ≤ q ∧ 0 ≤ n ∧ p + n ≤ alen a ∧ q + n ≤ alen d then run cs xs L l st ls (mcopy s a p d q n) else none
    | .invokeinterface mi k => match cs mi (st.take (k / 2)).reverse s with
      | some (v, s') => run cs xs L l (if k % 2 = 1 then st.drop (k / 2) else v :: st.drop (k / 2)) ls s'
      | none => none
    | .ifCond c t => p1 st fun x st => if cmp_ c x 0 = true then some (t, st, ls, s) else run cs xs L l st ls s
    | .if_icmp c t => p2 st fun x y st => if cmp_ c x y = true then some (t, st, ls, s) else run cs xs L l st ls s
    | .goto t => some (t, st, ls, s)
    | .jsr t => some (t, st, ls, s)
    | .lookupswitch d ps => p1 st fun x st => swk ps.toList d x fun t => some (t, st, ls, s)
    | .ireturn => p1 st fun x _ => some (-1, [x], ls, s)
    | .lreturn => p1 st fun x _ => some (-1, [x], ls, s)
    | .areturn => p1 st fun x _ => some (-1, [x], ls, s)
    | .freturn => p1 st fun x _ => if x = 0 ∨ x = 1 then some (-1, [x], ls, s) else none
    | .return_ => some (-1, [0], ls, s)
    | _ => none
def blk : Ops → Int → List Instr
  | [], _ => []
  | (q, l) :: r, pc => if q = pc then l else blk r pc
def steps (cs : CS) (xs : Int → Int) (L : Int) (ops : Ops) : Nat → Int → List Int → List Int → Mem → Option (Int × Mem)
  | 0, _, _, _, _ => none
  | n + 1, pc, st, ls, s => if pc = -1 then some (st.headD 0, s) else match run cs xs L (blk ops pc) st ls s with
    | some (pc', st', ls', s') => steps cs xs L ops n pc' st' ls' s'
    | none => none
