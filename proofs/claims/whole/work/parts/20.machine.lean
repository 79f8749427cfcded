/-! THE SMALL MACHINE: memory by the order of making (1, 2, ..; 0 is null), kinds 0-12 objects, 13 char, 14 int, 15 long, 16 boolean rows, 17, 18 rows of references -/
abbrev mm_M : Type := (Nat → Nat) × (Nat → Nat) × (Nat → Nat → Int32) × (Nat → Nat → Int64) × (Nat → Nat → Nat) × Nat × Nat
def mK (M : mm_M) (a : Nat) : Nat := M.1 a
def mN (M : mm_M) (a : Nat) : Nat := M.2.1 a
def mI (M : mm_M) (a k : Nat) : Int32 := M.2.2.1 a k
def mJ (M : mm_M) (a k : Nat) : Int64 := M.2.2.2.1 a k
def mR (M : mm_M) (a k : Nat) : Nat := M.2.2.2.2.1 a k
def mS (M : mm_M) : Nat := M.2.2.2.2.2.1
def mW (M : mm_M) : Nat := M.2.2.2.2.2.2
def u1 {α : Type} (f : Nat → α) (a : Nat) (v : α) : Nat → α := fun x => if x = a then v else f x
def u2 {α : Type} (f : Nat → Nat → α) (a k : Nat) (v : α) : Nat → Nat → α := fun x y => if x = a then (if y = k then v else f x y) else f x y
def sI (M : mm_M) (a k : Nat) (v : Int32) : mm_M := (M.1, M.2.1, u2 M.2.2.1 a k v, M.2.2.2.1, M.2.2.2.2.1, M.2.2.2.2.2.1, M.2.2.2.2.2.2)
def sJ (M : mm_M) (a k : Nat) (v : Int64) : mm_M := (M.1, M.2.1, M.2.2.1, u2 M.2.2.2.1 a k v, M.2.2.2.2.1, M.2.2.2.2.2.1, M.2.2.2.2.2.2)
def sR (M : mm_M) (a k : Nat) (v : Nat) : mm_M := (M.1, M.2.1, M.2.2.1, M.2.2.2.1, u2 M.2.2.2.2.1 a k v, M.2.2.2.2.2.1, M.2.2.2.2.2.2)
def rwI (M : mm_M) (a : Nat) (g : Nat → Int32) : mm_M := (M.1, M.2.1, u1 M.2.2.1 a g, M.2.2.2.1, M.2.2.2.2.1, M.2.2.2.2.2.1, M.2.2.2.2.2.2)
def rwJ (M : mm_M) (a : Nat) (g : Nat → Int64) : mm_M := (M.1, M.2.1, M.2.2.1, u1 M.2.2.2.1 a g, M.2.2.2.2.1, M.2.2.2.2.2.1, M.2.2.2.2.2.2)
/-- a new cell of kind kd, length n, w places -/
def nw (M : mm_M) (kd n w : Nat) : mm_M := (u1 M.1 (mS M) kd, u1 M.2.1 (mS M) n, u1 M.2.2.1 (mS M) (fun _ => 0), u1 M.2.2.2.1 (mS M) (fun _ => 0), u1 M.2.2.2.2.1 (mS M) (fun _ => 0), mS M + 1, mW M + w)
def xln (L n : Nat) : Nat := if n = 300 then L else tN (n - 100)
/-- what stands outside: strings 0-14, their bytes 100-114, the two static rows 200, 201, the script 300 -/
def xlen (L : Nat) (n : Nat) : Nat := if n = 300 then L else if n = 200 then 4 else if n = 201 then 4 else 0
def xrow (xs : Nat → Int32) (n : Nat) (k : Nat) : Int32 := if n = 300 then xs k else if n = 200 then ([1, 3, 0, 2] : List Int32).getD k 0 else ([3, 2, 0, 1] : List Int32).getD k 0
def jk : Value := .float 0
/-- a value into local i: a long that ends there is gone -/
def pre (ls : List Value) (i : Nat) : List Value := match i with
  | 0 => ls
  | n + 1 => match ls[n]? with
    | some (.long _) => ls.set n jk
    | some (.double _) => ls.set n jk
    | _ => ls
def st1 (ls : List Value) (i : Nat) (v : Value) : List Value := (pre ls i).set i v
def st2 (ls : List Value) (i : Nat) (v : Value) : List Value := ((pre ls i).set i v).set (i + 1) jk
/-- loads -/
def ldI (ls st : List Value) (i : Nat) : Option (List Value × List Value) := match ls[i]? with | some (.int x) => some (ls, .int x :: st) | _ => none
def ldL (ls st : List Value) (i : Nat) : Option (List Value × List Value) := match ls[i]? with | some (.long x) => some (ls, .long x :: st) | _ => none
def ldA (ls st : List Value) (i : Nat) : Option (List Value × List Value) := match ls[i]? with | some (.ref x) => some (ls, .ref x :: st) | some (.retAddr n) => some (ls, .retAddr n :: st) | _ => none
def soI (ls st : List Value) (i : Nat) : Option (List Value × List Value) := match st with | .int x :: st => if i < ls.length then some (st1 ls i (.int x), st) else none | _ => none
def soL (ls st : List Value) (i : Nat) : Option (List Value × List Value) := match st with | .long x :: st => if i + 1 < ls.length then some (st2 ls i (.long x), st) else none | _ => none
def soA (ls st : List Value) (i : Nat) : Option (List Value × List Value) := match st with | .ref x :: st => if i < ls.length then some (st1 ls i (.ref x), st) else none | _ => none
def o1I (ls st : List Value) (f : Int32 → Value) : Option (List Value × List Value) := match st with | .int x :: st => some (ls, f x :: st) | _ => none
def o2I (ls st : List Value) (f : Int32 → Int32 → Value) : Option (List Value × List Value) := match st with | .int y :: .int x :: st => some (ls, f x y :: st) | _ => none
def o1L (ls st : List Value) (f : Int64 → Value) : Option (List Value × List Value) := match st with | .long x :: st => some (ls, f x :: st) | _ => none
def o2L (ls st : List Value) (f : Int64 → Int64 → Value) : Option (List Value × List Value) := match st with | .long y :: .long x :: st => some (ls, f x y :: st) | _ => none
def oLI (ls st : List Value) (f : Int64 → Int32 → Value) : Option (List Value × List Value) := match st with | .int y :: .long x :: st => some (ls, f x y :: st) | _ => none
/-- an instruction without memory and without a guard -/
def sx (i : Instr) (ls st : List Value) : Option (List Value × List Value) :=
  match i with
  | .iload n => ldI ls st n
  | .iload_n n => ldI ls st n
  | .lload n => ldL ls st n
  | .lload_n n => ldL ls st n
  | .aload n => ldA ls st n
  | .aload_n n => ldA ls st n
  | .istore n => soI ls st n
  | .istore_n n => soI ls st n
  | .lstore n => soL ls st n
  | .lstore_n n => soL ls st n
  | .astore n => soA ls st n
  | .astore_n n => soA ls st n
  | .iconst n => some (ls, .int (Int32.ofInt n) :: st)
  | .bipush n => some (ls, .int (Int8.ofInt n).toInt32 :: st)
  | .sipush n => some (ls, .int (Int16.ofInt n).toInt32 :: st)
  | .lconst n => some (ls, .long (Int64.ofNat (n : Nat)) :: st)
  | .iinc n k => (match ls[n]? with | some (.int x) => some (st1 ls n (.int (x + Int32.ofInt k)), st) | _ => none)
  | .iadd => o2I ls st (fun x y => .int (x + y))
  | .isub => o2I ls st (fun x y => .int (x - y))
  | .imul => o2I ls st (fun x y => .int (x * y))
  | .iand => o2I ls st (fun x y => .int (x &&& y))
  | .ior => o2I ls st (fun x y => .int (x ||| y))
  | .ixor => o2I ls st (fun x y => .int (x ^^^ y))
  | .ishl => o2I ls st (fun x y => .int (x <<< (y &&& 31)))
  | .ishr => o2I ls st (fun x y => .int (x >>> (y &&& 31)))
  | .iushr => o2I ls st (fun x y => .int (x.toUInt32 >>> (y.toUInt32 &&& Int32.toUInt32 31)).toInt32)
  | .ineg => o1I ls st (fun x => .int (-x))
  | .i2l => o1I ls st (fun x => .long x.toInt64)
  | .i2c => o1I ls st (fun x => .int (x.toUInt32 % 65536).toInt32)
  | .i2b => o1I ls st (fun x => .int x.toInt8.toInt32)
  | .l2i => o1L ls st (fun x => .int x.toInt32)
  | .ladd => o2L ls st (fun x y => .long (x + y))
  | .lsub => o2L ls st (fun x y => .long (x - y))
  | .lmul => o2L ls st (fun x y => .long (x * y))
  | .land => o2L ls st (fun x y => .long (x &&& y))
  | .lor => o2L ls st (fun x y => .long (x ||| y))
  | .lcmp => o2L ls st (fun x y => .int (lg_cmp x y))
  | .lshl => oLI ls st (fun x y => .long (x <<< (y.toInt64 &&& 63)))
  | .lshr => oLI ls st (fun x y => .long (x >>> (y.toInt64 &&& 63)))
  | .lushr => oLI ls st (fun x y => .long (x.toUInt64 >>> (y.toInt64.toUInt64 &&& Int64.toUInt64 63)).toInt64)
  | .dup => (match st with | .int x :: st => some (ls, .int x :: .int x :: st) | .ref x :: st => some (ls, .ref x :: .ref x :: st) | _ => none)
  | .pop => (match st with | .int _ :: st => some (ls, st) | .ref _ :: st => some (ls, st) | _ => none)
  | .dup2 => (match st with | .int y :: .int x :: st => some (ls, .int y :: .int x :: .int y :: .int x :: st) | .int y :: .ref x :: st => some (ls, .int y :: .ref x :: .int y :: .ref x :: st) | _ => none)
  | _ => none
/-- an instruction with memory, or with a guard -/
def hx (L : Nat) (xs : Nat → Int32) (i : Instr) (st : List Value) (M : mm_M) : Option (Prop × List Value × mm_M) :=
  match i with
  | .idiv => (match st with | .int y :: .int x :: st => some (¬ y = 0, .int (x / y) :: st, M) | _ => none)
  | .irem => (match st with | .int y :: .int x :: st => some (¬ y = 0, .int (x - x / y * y) :: st, M) | _ => none)
  | .ldiv => (match st with | .long y :: .long x :: st => some (¬ y = 0, .long (x / y) :: st, M) | _ => none)
  | .lrem => (match st with | .long y :: .long x :: st => some (¬ y = 0, .long (x - x / y * y) :: st, M) | _ => none)
  | .jsr v => some (True, .long (Int64.ofInt v) :: st, M)
  | .goto_w v => some (True, .int (Int32.ofInt v) :: st, M)
  | .jsr_w v => some (True, .int (Int32.ofInt v) :: st, M)
  | .ret n => some (n < 15, .retAddr n :: st, M)
  | .getstatic n => if n = 0 then some (True, .int 1 :: st, M) else some (n = 200 ∨ n = 201 ∨ n = 202, .retAddr n :: st, M)
  | .getfield n => (match st with
      | .ref a :: st => if 832 ≤ n then none else if ft (n / 64) (n % 64) = 1 then some (mK M a = n / 64, .long (mJ M a (n % 64)) :: st, M) else if ft (n / 64) (n % 64) = 2 then some (mK M a = n / 64, .ref (mR M a (n % 64)) :: st, M) else some (mK M a = n / 64, .int (mI M a (n % 64)) :: st, M)
      | .retAddr i :: st => if n = 1000 then some (i < 15, .retAddr (100 + i) :: st, M) else some (i < 15 ∧ n = 1001, .int 0 :: st, M)
      | _ => none)
  | .putfield n => (match st with
      | .int v :: .ref a :: st => if ft (n / 64) (n % 64) = 0 then some (mK M a = n / 64, st, sI M a (n % 64) v) else some (mK M a = n / 64 ∧ ft (n / 64) (n % 64) = 3 ∧ narrow .char (.int v) = .int v ∧ fits .char (.int v) = true, st, sI M a (n % 64) v)
      | .long v :: .ref a :: st => some (mK M a = n / 64 ∧ ft (n / 64) (n % 64) = 1, st, sJ M a (n % 64) v)
      | .ref v :: .ref a :: st => some (mK M a = n / 64 ∧ ft (n / 64) (n % 64) = 2 ∧ v ≠ 0, st, sR M a (n % 64) v)
      | _ => none)
  | .arraylength => (match st with
      | .ref a :: st => some (13 ≤ mK M a ∧ mK M a < 19, .int (Int32.ofNat (mN M a)) :: st, M)
      | .retAddr n :: st => some (n = 300 ∨ (100 ≤ n ∧ n < 115), .int (Int32.ofNat (xln L n)) :: st, M)
      | _ => none)
  | .iaload => (match st with
      | .int i :: .ref a :: st => some (mK M a = 14 ∧ vp_in i (mN M a), .int (mI M a i.toNatClampNeg) :: st, M)
      | .int i :: .retAddr n :: st => some ((n = 300 ∨ n = 200 ∨ n = 201) ∧ vp_in i (xlen L n), .int (xrow xs n i.toNatClampNeg) :: st, M)
      | _ => none)
  | .laload => (match st with | .int i :: .ref a :: st => some (mK M a = 15 ∧ vp_in i (mN M a), .long (mJ M a i.toNatClampNeg) :: st, M) | _ => none)
  | .caload => (match st with | .int i :: .ref a :: st => some (mK M a = 13 ∧ vp_in i (mN M a), .int (mI M a i.toNatClampNeg) :: st, M) | _ => none)
  | .baload => (match st with
      | .int i :: .ref a :: st => some (mK M a = 16 ∧ vp_in i (mN M a), .int (mI M a i.toNatClampNeg) :: st, M)
      | .int i :: .retAddr n :: st => some ((100 ≤ n ∧ n < 115) ∧ vp_in i (tN (n - 100)), .int (tB (n - 100) i.toNatClampNeg) :: st, M)
      | _ => none)
  | .aaload => (match st with | .int i :: .ref a :: st => some ((mK M a = 17 ∨ mK M a = 18) ∧ vp_in i (mN M a), .ref (mR M a i.toNatClampNeg) :: st, M) | _ => none)
  | .iastore => (match st with | .int v :: .int i :: .ref a :: st => some (mK M a = 14 ∧ vp_in i (mN M a), st, sI M a i.toNatClampNeg v) | _ => none)
  | .lastore => (match st with | .long v :: .int i :: .ref a :: st => some (mK M a = 15 ∧ vp_in i (mN M a), st, sJ M a i.toNatClampNeg v) | _ => none)
  | .castore => (match st with | .int v :: .int i :: .ref a :: st => some (mK M a = 13 ∧ vp_in i (mN M a), st, sI M a i.toNatClampNeg (vp_nar .char v)) | _ => none)
  | .bastore => (match st with | .int v :: .int i :: .ref a :: st => some (mK M a = 16 ∧ vp_in i (mN M a), st, sI M a i.toNatClampNeg (vp_nar .boolean v)) | _ => none)
  | .aastore => (match st with | .ref v :: .int i :: .ref a :: st => some (((mK M a = 17 ∧ mK M v = 0) ∨ (mK M a = 18 ∧ mK M v = 9)) ∧ vp_in i (mN M a), st, sR M a i.toNatClampNeg v) | _ => none)
  | .new n => some (n < 13, .ref (mS M) :: st, nw M n 0 (ftT n).length)
  | .newarray t => (match t, st with
      | .char, .int n :: st => some (¬ n < 0 ∧ n.toNatClampNeg ≤ 65536, .ref (mS M) :: st, nw M 13 n.toNatClampNeg n.toNatClampNeg)
      | .int, .int n :: st => some (¬ n < 0 ∧ n.toNatClampNeg ≤ 65536, .ref (mS M) :: st, nw M 14 n.toNatClampNeg n.toNatClampNeg)
      | .long, .int n :: st => some (¬ n < 0 ∧ n.toNatClampNeg ≤ 65536, .ref (mS M) :: st, nw M 15 n.toNatClampNeg n.toNatClampNeg)
      | .boolean, .int n :: st => some (¬ n < 0 ∧ n.toNatClampNeg ≤ 65536, .ref (mS M) :: st, nw M 16 n.toNatClampNeg n.toNatClampNeg)
      | _, _ => none)
  | .anewarray k => (match st with | .int n :: st => some ((k = 17 ∨ k = 18) ∧ ¬ n < 0 ∧ n.toNatClampNeg ≤ 65536, .ref (mS M) :: st, nw M k n.toNatClampNeg n.toNatClampNeg) | _ => none)
  | _ => none

def c0 (c : Jvm.ClassFile.Cond) (x : Int32) : Prop := match c with
  | .eq => x = 0 | .ne => ¬ x = 0 | .lt => x < 0 | .ge => 0 ≤ x | .gt => 0 < x | .le => x ≤ 0
def c2 (c : Jvm.ClassFile.Cond) (x y : Int32) : Prop := match c with
  | .eq => x = y | .ne => ¬ x = y | .lt => x < y | .ge => y ≤ x | .gt => y < x | .le => x ≤ y
noncomputable def ifP (c : Prop) (a b : Prop) : Prop := (c → a) ∧ (¬ c → b)
def tg (pc : Nat) (off : Int) : Nat := ((pc : Int) + off).toNat
/-- the kind of a method's object (99: none), how many values it takes -/
def cats (st : List Value) : Nat := (st.map fun v => v.category).sum
/-- a row of instructions: E the calls, K where it goes on, Q where it returns -/
def bl (L : Nat) (xs : Nat → Int32) (ac kd : Nat → Nat) (E : Nat → List Value → mm_M → Option Value → mm_M → Prop) (rt : Option FieldType) (K : Nat → List Value → List Value → mm_M → Prop) (Q : Option Value → mm_M → Prop) : List Instr → Nat → List Value → List Value → mm_M → Prop
  | [], pc, ls, st, M => K pc ls st M
  | i :: t, pc, ls, st, M => match i with
    | .goto off => K (tg pc off) ls st M
    | .ifCond c off => (match st with | .int x :: st => ifP (c0 c x) (K (tg pc off) ls st M) (bl L xs ac kd E rt K Q t (pc + 3) ls st M) | _ => False)
    | .if_icmp c off => (match st with | .int y :: .int x :: st => ifP (c2 c x y) (K (tg pc off) ls st M) (bl L xs ac kd E rt K Q t (pc + 3) ls st M) | _ => False)
    | .tableswitch d lo hi offs => (match st with | .int x :: st => ifP (x.toInt < lo ∨ hi < x.toInt) (K (tg pc d) ls st M) (∃ off, offs[(x.toInt - lo).toNat]? = some off ∧ K (tg pc off) ls st M) | _ => False)
    | .ireturn => (match st, rt with | [.int x], some ty => narrow ty (.int x) = .int x ∧ Q (some (.int x)) M | _, _ => False)
    | .lreturn => (match st, rt with | [.long x], some .long => Q (some (.long x)) M | _, _ => False)
    | .return_ => (match st, rt with | [], none => Q none M | _, _ => False)
    | .invokestatic j => (match j with
      | 900 => (match st with | .int n :: .int dp :: .ref a :: .int sp :: .ref a0 :: st => (mK M a0 = 14 ∧ mK M a = 14 ∧ ¬ sp < 0 ∧ ¬ dp < 0 ∧ ¬ n < 0 ∧ sp.toNatClampNeg + n.toNatClampNeg ≤ mN M a0 ∧ dp.toNatClampNeg + n.toNatClampNeg ≤ mN M a ∧ cats st ≤ 8) ∧ bl L xs ac kd E rt K Q t (pc + 3) ls st (rwI M a (va_cpy (mI M a0) (mI M a) sp.toNatClampNeg dp.toNatClampNeg n.toNatClampNeg)) | _ => False)
      | 901 => (match st with | .int n :: .int dp :: .ref a :: .int sp :: .ref a0 :: st => (mK M a0 = 15 ∧ mK M a = 15 ∧ ¬ sp < 0 ∧ ¬ dp < 0 ∧ ¬ n < 0 ∧ sp.toNatClampNeg + n.toNatClampNeg ≤ mN M a0 ∧ dp.toNatClampNeg + n.toNatClampNeg ≤ mN M a ∧ cats st ≤ 8) ∧ bl L xs ac kd E rt K Q t (pc + 3) ls st (rwJ M a (va_cpy (mJ M a0) (mJ M a) sp.toNatClampNeg dp.toNatClampNeg n.toNatClampNeg)) | _ => False)
      | j => (ac j ≤ st.length ∧ cats (st.drop (ac j)) ≤ 8) ∧ ∃ r M1, E j (st.take (ac j)).reverse M r M1 ∧ bl L xs ac kd E rt K Q t (pc + 3) ls (r.toList ++ st.drop (ac j)) M1)
    | .invokespecial j => (match j with
      | 900 => (match st with | .ref a :: st => (a ≠ 0 ∧ cats st ≤ 8) ∧ bl L xs ac kd E rt K Q t (pc + 3) ls st M | _ => False)
      | j => (match st.drop (ac j - 1) with | .ref a :: _ => a ≠ 0 | _ => False) ∧ (ac j ≤ st.length ∧ cats (st.drop (ac j)) ≤ 8) ∧ ∃ r M1, E j (st.take (ac j)).reverse M r M1 ∧ bl L xs ac kd E rt K Q t (pc + 3) ls (r.toList ++ st.drop (ac j)) M1)
    | .invokevirtual j => (match st.drop (ac j - 1) with | .ref a :: _ => mK M a = kd j ∧ kd j < 13 | .retAddr i :: _ => i < 15 ∧ kd j = 20 | _ => False) ∧ (ac j ≤ st.length ∧ cats (st.drop (ac j)) ≤ 8) ∧ ∃ r M1, E j (st.take (ac j)).reverse M r M1 ∧ bl L xs ac kd E rt K Q t (pc + 3) ls (r.toList ++ st.drop (ac j)) M1
    | i => (match sx i ls st with
      | some (ls', st') => bl L xs ac kd E rt K Q t (pc + iln i) ls' st' M
      | none => (match hx L xs i st M with
        | some (g, st', M') => g ∧ bl L xs ac kd E rt K Q t (pc + iln i) ls st' M'
        | none => False))

/-! from the small machine's values to the machine's -/
def ro (b a : Nat) : Option Nat := if a = 0 then none else some (b + a)
def cv (b : Nat) (xa : Nat → Option Nat) : Value → Value
  | .ref a => va_rf (ro b a)
  | .retAddr n => va_rf (xa n)
  | v => v
def pl (b : Nat) (xa : Nat → Option Nat) (ls : List Value) : List (Nat × Value) := (List.range ls.length).filterMap (fun i => match ls[i]? with | some v => if v = jk then none else some (i, cv b xa v) | none => none)
def fv (b : Nat) (M : mm_M) (kd a k : Nat) : Value := if ft kd k = 1 then .long (mJ M a k) else if ft kd k = 2 then va_rf (ro b (mR M a k)) else .int (mI M a k)
def av (b : Nat) (M : mm_M) (kd a j : Nat) : Value := if kd = 15 then .long (mJ M a j) else if kd = 17 ∨ kd = 18 then va_rf (ro b (mR M a j)) else .int (mI M a j)
/-- the heap holds the memory -/
def cok (D : va_G) (cy : Nat → ClassId) (b : Nat) (M : mm_M) (a : Nat) (H : Heap) : Prop := if mK M a < 13 then t_OB (b + a) (D.1 (mK M a)) (ftT (mK M a)).length (D.2 (mK M a)) H (fv b M (mK M a) a) else H[b + a]? = some (arrV (cy (mK M a)) (mN M a) (av b M (mK M a) a))
def WR (D : va_G) (cy : Nat → ClassId) (b : Nat) (M : mm_M) (H : Heap) : Prop := H.size = b + mS M ∧ ∀ a, mK M a < 19 → a ≠ 0 ∧ cok D cy b M a H
