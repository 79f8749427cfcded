/-- how long an instruction is, jumps, calls and returns too -/
def ln (i : Instr) : Nat := match i with
  | .goto _ => 3 | .ifCond _ _ => 3 | .if_icmp _ _ => 3 | .invokestatic _ => 3 | .invokespecial _ => 3 | .invokevirtual _ => 3
  | i => iln i
def FLs : List (Nat × Nat × Nat) := FL.map Prod.fst
def MLs : List (Nat × Nat × Nat) := ML.map Prod.fst
def MLNs : List (Nat × Nat × Nat) := MLN.map Prod.fst
def CKs : List (Nat × Nat × Nat) := CK.map Prod.fst
def LKs : List (Nat × Nat × Int) := LK.map Prod.fst
def IKs : List (Nat × Nat × Int) := IK.map Prod.fst
def SKs : List (Nat × Nat × Nat) := SK.map Prod.fst
def OBs : List (Nat × Nat) := OB.map Prod.fst
def ACs : List (Nat × Nat) := AC.map Prod.fst
def GSs : List (Nat × Nat × Nat) := GS.map Prod.fst
def GNs : List (Nat × Nat × Nat) := GN.map Prod.fst
def SOs : List Nat := SO.map Prod.fst
def NOs : List Nat := NO.map Prod.fst
def EOs : List Nat := EO.map Prod.fst
/-- the small machine's instruction i stands for the machine's raw one, in class o, in a constructor or not -/
def ck (o : Nat) (ini : Bool) (i raw : Instr) : Bool := match i with
  | .getfield n => (match raw with | .getfield x => FLs.contains (o, x, n) && (n == 1000 || n == 1001 || (decide (n / 64 < 13) && decide (n % 64 < (ftT (n / 64)).length))) | _ => false)
  | .putfield n => (match raw with | .putfield x => FLs.contains (o, x, n) && (decide (n / 64 < 13) && decide (n % 64 < (ftT (n / 64)).length)) && (!(cT (n / 64) (n % 64)).2.2.2 || (ini && decide ((cT (n / 64) (n % 64)).1 = on o))) | _ => false)
  | .getstatic n => (match raw with | .getstatic x => GSs.contains (o, x, n) || GNs.contains (o, x, n) | _ => false)
  | .new n => (match raw with | .new x => CKs.contains (o, x, n) && decide (n < 13) | _ => false)
  | .anewarray n => (match raw with | .anewarray x => (n == 17 && CKs.contains (o, x, 0)) || (n == 18 && CKs.contains (o, x, 9)) | _ => false)
  | .jsr v => (match raw with | .ldc2_w x => LKs.contains (o, x, v) | _ => false)
  | .goto_w v => (match raw with | .ldc x => IKs.contains (o, x, v) | _ => false)
  | .jsr_w v => (match raw with | .ldc_w x => IKs.contains (o, x, v) | _ => false)
  | .ret n => (match raw with | .ldc x => SKs.contains (o, x, n) | _ => false)
  | .invokestatic j => (match raw with | .invokestatic x => if j = 900 ∨ j = 901 then ACs.contains (o, x) else MLs.contains (o, x, j) && (SOs.contains j || j == 291) | _ => false)
  | .invokespecial j => (match raw with | .invokespecial x => if j = 900 then OBs.contains (o, x) else (MLs.contains (o, x, j) || MLNs.contains (o, x, j)) && NOs.contains j && decide ((yy j).name = "<init>") | _ => false)
  | .invokevirtual j => (match raw with | .invokevirtual x => MLs.contains (o, x, j) && NOs.contains j && EOs.contains j | _ => false)
  | .athrow => true
  | i => decide (raw = i)
def ckB (o : Nat) (ini : Bool) (cc : ByteArray) : List Instr → Nat → Bool
  | [], _ => true
  | i :: t, pc => (match i with | .athrow => true | _ => match decode cc pc with
      | .ok (raw, n) => ck o ini i raw && (match i with | .tableswitch _ _ _ _ => true | _ => n == ln i)
      | .error _ => false) && ckB o ini cc t (pc + ln i)
def ckP (o : Nat) (ini : Bool) (cc : ByteArray) (bs : List (Nat × List Instr)) : Bool := bs.all (fun q => ckB o ini cc q.2 q.1)

