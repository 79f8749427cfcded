section
/-- the fields of a kind: 0 int, 1 long, 2 reference, 3 char -/
def ftT : Nat → List Nat := fun k => match k with
  | 0 => [0, 2, 2]
  | 1 => [2, 2, 0]
  | 2 => [0, 2, 2, 2]
  | 3 => [0, 2, 2, 2, 0, 0, 2]
  | 4 => [2]
  | 5 => [2, 0]
  | 6 => [0, 2, 2, 2, 2]
  | 7 => [0, 0, 0, 0, 0, 2, 2, 2, 2, 2, 2, 2, 2, 2]
  | 8 => [0, 0, 2, 0, 0, 2, 2, 2, 2]
  | 9 => [0, 2, 2, 2, 2, 2, 2, 2, 2]
  | 10 => [0, 0, 0, 1, 0, 2, 3, 0, 0]
  | 11 => [2, 2, 2, 2, 2, 2, 2, 2, 2, 2, 2, 2, 2, 1]
  | 12 => [0, 2, 0, 0, 2, 2, 2, 0, 0, 2, 2, 2, 2, 0, 2, 2, 2, 2, 0, 0, 0, 2, 2, 2, 2, 0, 2, 2, 2, 0, 2, 2, 0, 0, 1]
  | _ => []
def ft (kd k : Nat) : Nat := (ftT kd).getD k 0
/-- the string constants' bytes -/
def tS : List (List Int32) := [
  [40, 41, 60, 61, 43, 45, 42, 59],
  [116, 114, 101, 101, 32, 112, 101, 114, 115, 111, 110, 32, 112, 105, 110, 99, 104, 32, 110, 111, 111, 110, 32, 102, 114, 111, 115, 116, 32, 98, 101, 97, 114, 115],
  [116, 114, 101, 101, 32, 108, 97, 115, 116, 32, 97, 103, 101, 32, 112, 101, 114, 115, 111, 110, 32, 102, 101, 101, 116, 32, 112, 105, 110, 99, 104, 32, 110, 111, 111, 110, 32, 102, 114, 111, 115, 116, 32, 98, 101, 97, 114, 115, 32, 116, 114, 121, 32, 115, 104, 97, 114, 101, 32, 103, 114, 97, 102, 116, 32, 112, 114, 117, 110, 101, 32, 121, 101, 97, 114, 32, 98, 114, 111, 103, 117, 101, 32, 98, 111, 111, 116, 32, 115, 108, 105, 112, 112, 101, 114, 32, 115, 97, 110, 100, 97, 108, 32, 112, 108, 97, 105, 110, 32, 99, 104, 105, 108, 100, 32, 104, 111, 112, 112, 101, 114, 32, 111, 108, 100, 32, 110, 111, 116, 32, 97, 110, 100, 32, 111, 114],
  [98, 114, 111, 103, 117, 101, 32, 98, 111, 111, 116, 32, 115, 108, 105, 112, 112, 101, 114, 32, 115, 97, 110, 100, 97, 108],
  [108, 97, 115, 116],
  [97, 103, 101],
  [112, 108, 97, 105, 110, 32, 99, 104, 105, 108, 100, 32, 104, 111, 112, 112, 101, 114, 32, 111, 108, 100],
  [102, 101, 101, 116],
  [110, 111, 116],
  [115, 105, 122, 101, 32, 121, 101, 97, 114, 115, 32, 99, 104, 105, 108, 108, 32, 100, 97, 116, 101],
  [97, 110, 100],
  [111, 114],
  [116, 114, 121, 32, 115, 104, 97, 114, 101, 32, 103, 114, 97, 102, 116, 32, 112, 114, 117, 110, 101, 32, 121, 101, 97, 114],
  [119, 104, 97, 116, 32, 111, 110, 101, 32, 103, 101, 116, 115, 32, 111, 114, 32, 108, 111, 115, 101, 115, 32, 105, 115, 32, 48, 32, 116, 111, 32, 57],
  [116, 104, 101, 114, 101, 32, 105, 115, 32, 110, 111, 32, 115, 117, 99, 104, 32, 114, 101, 115, 116]]
def tB (i k : Nat) : Int32 := (tS.getD i []).getD k 0
def tN (i : Nat) : Nat := (tS.map List.length).getD i 0
/-- how long an instruction is -/
def iln : Instr → Nat
  | .aload _ => 2 | .iload _ => 2 | .lload _ => 2 | .istore _ => 2 | .lstore _ => 2 | .astore _ => 2
  | .bipush _ => 2 | .sipush _ => 3 | .iinc _ _ => 3
  | .getfield _ => 3 | .putfield _ => 3 | .getstatic _ => 3 | .new _ => 3 | .newarray _ => 2 | .anewarray _ => 3
  | .jsr _ => 3 | .goto_w _ => 2 | .jsr_w _ => 3 | .ret _ => 2
  | _ => 1
end
section
-- ===== PART A: goes FIRST, ahead of the names: the tables' words, and 'selects' of the private methods out of them =====
/-- a private method of a class that the tables say can be made, by its rows of tables_1 -/
def lw_okq (q : MethodName × Nat) : Prop := (q.1.cls ≠ "java/lang/invoke/MethodHandle" ∧ q.1.cls ≠ "java/lang/invoke/VarHandle") ∧ Cond.instantiable q.1.cls q.2 ∈ tables_1 ∧ Cond.privateMethod q.1 ∈ tables_1 ∧ Cond.instanceMethod q.1 ∈ tables_1
theorem lw_p0 : lw_okq (⟨"ShoeOrchard$State", "beginMorning", "()V"⟩, 9) := ⟨⟨by decide +kernel, by decide +kernel⟩, List.mem_of_getElem? (i := 223) (by decide +kernel), List.mem_of_getElem? (i := 399) (by decide +kernel), List.mem_of_getElem? (i := 400) (by decide +kernel)⟩
theorem lw_p1 : lw_okq (⟨"ShoeOrchard", "feedBytes", "(J)V"⟩, 14) := ⟨⟨by decide +kernel, by decide +kernel⟩, List.mem_of_getElem? (i := 28) (by decide +kernel), List.mem_of_getElem? (i := 450) (by decide +kernel), List.mem_of_getElem? (i := 451) (by decide +kernel)⟩
theorem lw_p2 : lw_okq (⟨"ShoeOrchard$Tape", "readWord", "()V"⟩, 9) := ⟨⟨by decide +kernel, by decide +kernel⟩, List.mem_of_getElem? (i := 36) (by decide +kernel), List.mem_of_getElem? (i := 482) (by decide +kernel), List.mem_of_getElem? (i := 483) (by decide +kernel)⟩
theorem lw_p3 : lw_okq (⟨"ShoeOrchard$Tape", "readNumber", "()V"⟩, 9) := ⟨⟨by decide +kernel, by decide +kernel⟩, List.mem_of_getElem? (i := 36) (by decide +kernel), List.mem_of_getElem? (i := 490) (by decide +kernel), List.mem_of_getElem? (i := 491) (by decide +kernel)⟩
theorem lw_p4 : lw_okq (⟨"ShoeOrchard$OrchardReader", "readLine", "(LShoeOrchard$Tape;)Z"⟩, 2) := ⟨⟨by decide +kernel, by decide +kernel⟩, List.mem_of_getElem? (i := 194) (by decide +kernel), List.mem_of_getElem? (i := 581) (by decide +kernel), List.mem_of_getElem? (i := 582) (by decide +kernel)⟩
theorem lw_p5 : lw_okq (⟨"ShoeOrchard$Tape", "isPartOf", "(Ljava/lang/String;II)Z"⟩, 9) := ⟨⟨by decide +kernel, by decide +kernel⟩, List.mem_of_getElem? (i := 36) (by decide +kernel), List.mem_of_getElem? (i := 611) (by decide +kernel), List.mem_of_getElem? (i := 612) (by decide +kernel)⟩
theorem lw_p6 : lw_okq (⟨"ShoeOrchard$OrchardReader", "readTree", "(LShoeOrchard$Tape;)Z"⟩, 2) := ⟨⟨by decide +kernel, by decide +kernel⟩, List.mem_of_getElem? (i := 194) (by decide +kernel), List.mem_of_getElem? (i := 615) (by decide +kernel), List.mem_of_getElem? (i := 616) (by decide +kernel)⟩
theorem lw_p7 : lw_okq (⟨"ShoeOrchard$OrchardReader", "isNewName", "(LShoeOrchard$Tape;)Z"⟩, 2) := ⟨⟨by decide +kernel, by decide +kernel⟩, List.mem_of_getElem? (i := 194) (by decide +kernel), List.mem_of_getElem? (i := 624) (by decide +kernel), List.mem_of_getElem? (i := 625) (by decide +kernel)⟩
theorem lw_p8 : lw_okq (⟨"ShoeOrchard$OrchardReader", "readPerson", "(LShoeOrchard$Tape;)Z"⟩, 2) := ⟨⟨by decide +kernel, by decide +kernel⟩, List.mem_of_getElem? (i := 194) (by decide +kernel), List.mem_of_getElem? (i := 662) (by decide +kernel), List.mem_of_getElem? (i := 663) (by decide +kernel)⟩
theorem lw_p9 : lw_okq (⟨"ShoeOrchard$OrchardReader", "readOnce", "(LShoeOrchard$Tape;I)Z"⟩, 2) := ⟨⟨by decide +kernel, by decide +kernel⟩, List.mem_of_getElem? (i := 194) (by decide +kernel), List.mem_of_getElem? (i := 668) (by decide +kernel), List.mem_of_getElem? (i := 669) (by decide +kernel)⟩
theorem lw_p10 : lw_okq (⟨"ShoeOrchard$OrchardReader", "readPinch", "(LShoeOrchard$Tape;)Z"⟩, 2) := ⟨⟨by decide +kernel, by decide +kernel⟩, List.mem_of_getElem? (i := 194) (by decide +kernel), List.mem_of_getElem? (i := 672) (by decide +kernel), List.mem_of_getElem? (i := 673) (by decide +kernel)⟩
theorem lw_p11 : lw_okq (⟨"ShoeOrchard$OrchardReader", "readNoon", "(LShoeOrchard$Tape;)Z"⟩, 2) := ⟨⟨by decide +kernel, by decide +kernel⟩, List.mem_of_getElem? (i := 194) (by decide +kernel), List.mem_of_getElem? (i := 676) (by decide +kernel), List.mem_of_getElem? (i := 677) (by decide +kernel)⟩
theorem lw_p12 : lw_okq (⟨"ShoeOrchard$OrchardReader", "readFrosts", "(LShoeOrchard$Tape;)Z"⟩, 2) := ⟨⟨by decide +kernel, by decide +kernel⟩, List.mem_of_getElem? (i := 194) (by decide +kernel), List.mem_of_getElem? (i := 680) (by decide +kernel), List.mem_of_getElem? (i := 681) (by decide +kernel)⟩
theorem lw_p13 : lw_okq (⟨"ShoeOrchard$OrchardReader", "readE", "(LShoeOrchard$Tape;I)Z"⟩, 2) := ⟨⟨by decide +kernel, by decide +kernel⟩, List.mem_of_getElem? (i := 194) (by decide +kernel), List.mem_of_getElem? (i := 684) (by decide +kernel), List.mem_of_getElem? (i := 685) (by decide +kernel)⟩
theorem lw_p14 : lw_okq (⟨"ShoeOrchard$OrchardReader", "readTest", "(LShoeOrchard$Tape;I)Z"⟩, 2) := ⟨⟨by decide +kernel, by decide +kernel⟩, List.mem_of_getElem? (i := 194) (by decide +kernel), List.mem_of_getElem? (i := 688) (by decide +kernel), List.mem_of_getElem? (i := 689) (by decide +kernel)⟩
theorem lw_p15 : lw_okq (⟨"ShoeOrchard$OrchardReader", "readSum", "(LShoeOrchard$Tape;I)Z"⟩, 2) := ⟨⟨by decide +kernel, by decide +kernel⟩, List.mem_of_getElem? (i := 194) (by decide +kernel), List.mem_of_getElem? (i := 692) (by decide +kernel), List.mem_of_getElem? (i := 693) (by decide +kernel)⟩
def lw_privs_1 : List (MethodName × Nat) := [(⟨"ShoeOrchard$State", "beginMorning", "()V"⟩, 9), (⟨"ShoeOrchard", "feedBytes", "(J)V"⟩, 14), (⟨"ShoeOrchard$Tape", "readWord", "()V"⟩, 9), (⟨"ShoeOrchard$Tape", "readNumber", "()V"⟩, 9), (⟨"ShoeOrchard$OrchardReader", "readLine", "(LShoeOrchard$Tape;)Z"⟩, 2), (⟨"ShoeOrchard$Tape", "isPartOf", "(Ljava/lang/String;II)Z"⟩, 9), (⟨"ShoeOrchard$OrchardReader", "readTree", "(LShoeOrchard$Tape;)Z"⟩, 2), (⟨"ShoeOrchard$OrchardReader", "isNewName", "(LShoeOrchard$Tape;)Z"⟩, 2), (⟨"ShoeOrchard$OrchardReader", "readPerson", "(LShoeOrchard$Tape;)Z"⟩, 2), (⟨"ShoeOrchard$OrchardReader", "readOnce", "(LShoeOrchard$Tape;I)Z"⟩, 2), (⟨"ShoeOrchard$OrchardReader", "readPinch", "(LShoeOrchard$Tape;)Z"⟩, 2), (⟨"ShoeOrchard$OrchardReader", "readNoon", "(LShoeOrchard$Tape;)Z"⟩, 2), (⟨"ShoeOrchard$OrchardReader", "readFrosts", "(LShoeOrchard$Tape;)Z"⟩, 2), (⟨"ShoeOrchard$OrchardReader", "readE", "(LShoeOrchard$Tape;I)Z"⟩, 2), (⟨"ShoeOrchard$OrchardReader", "readTest", "(LShoeOrchard$Tape;I)Z"⟩, 2), (⟨"ShoeOrchard$OrchardReader", "readSum", "(LShoeOrchard$Tape;I)Z"⟩, 2)]
theorem lw_r1 : ∀ q ∈ lw_privs_1, lw_okq q := List.forall_mem_cons.mpr ⟨lw_p0, List.forall_mem_cons.mpr ⟨lw_p1, List.forall_mem_cons.mpr ⟨lw_p2, List.forall_mem_cons.mpr ⟨lw_p3, List.forall_mem_cons.mpr ⟨lw_p4, List.forall_mem_cons.mpr ⟨lw_p5, List.forall_mem_cons.mpr ⟨lw_p6, List.forall_mem_cons.mpr ⟨lw_p7, List.forall_mem_cons.mpr ⟨lw_p8, List.forall_mem_cons.mpr ⟨lw_p9, List.forall_mem_cons.mpr ⟨lw_p10, List.forall_mem_cons.mpr ⟨lw_p11, List.forall_mem_cons.mpr ⟨lw_p12, List.forall_mem_cons.mpr ⟨lw_p13, List.forall_mem_cons.mpr ⟨lw_p14, List.forall_mem_cons.mpr ⟨lw_p15, fun _ h => absurd h List.not_mem_nil⟩⟩⟩⟩⟩⟩⟩⟩⟩⟩⟩⟩⟩⟩⟩⟩
theorem lw_p16 : lw_okq (⟨"ShoeOrchard$OrchardReader", "readProduct", "(LShoeOrchard$Tape;I)Z"⟩, 2) := ⟨⟨by decide +kernel, by decide +kernel⟩, List.mem_of_getElem? (i := 194) (by decide +kernel), List.mem_of_getElem? (i := 696) (by decide +kernel), List.mem_of_getElem? (i := 697) (by decide +kernel)⟩
theorem lw_p17 : lw_okq (⟨"ShoeOrchard$OrchardReader", "readPart", "(LShoeOrchard$Tape;I)Z"⟩, 2) := ⟨⟨by decide +kernel, by decide +kernel⟩, List.mem_of_getElem? (i := 194) (by decide +kernel), List.mem_of_getElem? (i := 700) (by decide +kernel), List.mem_of_getElem? (i := 701) (by decide +kernel)⟩
theorem lw_p18 : lw_okq (⟨"ShoeOrchard$MorningReader", "readLine", "(LShoeOrchard$Tape;LShoeOrchard$Plan;)Z"⟩, 1) := ⟨⟨by decide +kernel, by decide +kernel⟩, List.mem_of_getElem? (i := 210) (by decide +kernel), List.mem_of_getElem? (i := 759) (by decide +kernel), List.mem_of_getElem? (i := 760) (by decide +kernel)⟩
theorem lw_p19 : lw_okq (⟨"ShoeOrchard$MorningReader", "readNamed", "(LShoeOrchard$Tape;LShoeOrchard$Plan;ZI)I"⟩, 1) := ⟨⟨by decide +kernel, by decide +kernel⟩, List.mem_of_getElem? (i := 210) (by decide +kernel), List.mem_of_getElem? (i := 767) (by decide +kernel), List.mem_of_getElem? (i := 768) (by decide +kernel)⟩
theorem lw_p20 : lw_okq (⟨"ShoeOrchard$Past", "dropOldest", "()V"⟩, 5) := ⟨⟨by decide +kernel, by decide +kernel⟩, List.mem_of_getElem? (i := 265) (by decide +kernel), List.mem_of_getElem? (i := 870) (by decide +kernel), List.mem_of_getElem? (i := 871) (by decide +kernel)⟩
theorem lw_p21 : lw_okq (⟨"ShoeOrchard$State", "putOn", "(II)V"⟩, 9) := ⟨⟨by decide +kernel, by decide +kernel⟩, List.mem_of_getElem? (i := 223) (by decide +kernel), List.mem_of_getElem? (i := 884) (by decide +kernel), List.mem_of_getElem? (i := 885) (by decide +kernel)⟩
theorem lw_p22 : lw_okq (⟨"ShoeOrchard", "measure", "(LShoeOrchard$State;)V"⟩, 14) := ⟨⟨by decide +kernel, by decide +kernel⟩, List.mem_of_getElem? (i := 28) (by decide +kernel), List.mem_of_getElem? (i := 969) (by decide +kernel), List.mem_of_getElem? (i := 970) (by decide +kernel)⟩
theorem lw_p23 : lw_okq (⟨"ShoeOrchard", "fittingTrees", "(LShoeOrchard$State;I)I"⟩, 14) := ⟨⟨by decide +kernel, by decide +kernel⟩, List.mem_of_getElem? (i := 28) (by decide +kernel), List.mem_of_getElem? (i := 973) (by decide +kernel), List.mem_of_getElem? (i := 974) (by decide +kernel)⟩
theorem lw_p24 : lw_okq (⟨"ShoeOrchard", "fittingPersons", "(I)I"⟩, 14) := ⟨⟨by decide +kernel, by decide +kernel⟩, List.mem_of_getElem? (i := 28) (by decide +kernel), List.mem_of_getElem? (i := 983) (by decide +kernel), List.mem_of_getElem? (i := 984) (by decide +kernel)⟩
theorem lw_p25 : lw_okq (⟨"ShoeOrchard", "matched", "(IZ)I"⟩, 14) := ⟨⟨by decide +kernel, by decide +kernel⟩, List.mem_of_getElem? (i := 28) (by decide +kernel), List.mem_of_getElem? (i := 991) (by decide +kernel), List.mem_of_getElem? (i := 992) (by decide +kernel)⟩
theorem lw_p26 : lw_okq (⟨"ShoeOrchard", "freeTrees", "()I"⟩, 14) := ⟨⟨by decide +kernel, by decide +kernel⟩, List.mem_of_getElem? (i := 28) (by decide +kernel), List.mem_of_getElem? (i := 995) (by decide +kernel), List.mem_of_getElem? (i := 996) (by decide +kernel)⟩
theorem lw_p27 : lw_okq (⟨"ShoeOrchard$Matching", "mostFrom", "(II)I"⟩, 7) := ⟨⟨by decide +kernel, by decide +kernel⟩, List.mem_of_getElem? (i := 312) (by decide +kernel), List.mem_of_getElem? (i := 1014) (by decide +kernel), List.mem_of_getElem? (i := 1015) (by decide +kernel)⟩
theorem lw_p28 : lw_okq (⟨"ShoeOrchard$Matching", "mostBy", "(III)I"⟩, 7) := ⟨⟨by decide +kernel, by decide +kernel⟩, List.mem_of_getElem? (i := 312) (by decide +kernel), List.mem_of_getElem? (i := 1018) (by decide +kernel), List.mem_of_getElem? (i := 1019) (by decide +kernel)⟩
theorem lw_p29 : lw_okq (⟨"ShoeOrchard$Matching", "firstOfMost", "(II)I"⟩, 7) := ⟨⟨by decide +kernel, by decide +kernel⟩, List.mem_of_getElem? (i := 312) (by decide +kernel), List.mem_of_getElem? (i := 1023) (by decide +kernel), List.mem_of_getElem? (i := 1024) (by decide +kernel)⟩
theorem lw_p30 : lw_okq (⟨"ShoeOrchard$Queue", "goOn", "(IIII)V"⟩, 9) := ⟨⟨by decide +kernel, by decide +kernel⟩, List.mem_of_getElem? (i := 344) (by decide +kernel), List.mem_of_getElem? (i := 1048) (by decide +kernel), List.mem_of_getElem? (i := 1049) (by decide +kernel)⟩
theorem lw_p31 : lw_okq (⟨"ShoeOrchard$Queue", "treeFor", "(II)I"⟩, 9) := ⟨⟨by decide +kernel, by decide +kernel⟩, List.mem_of_getElem? (i := 344) (by decide +kernel), List.mem_of_getElem? (i := 1053) (by decide +kernel), List.mem_of_getElem? (i := 1054) (by decide +kernel)⟩
def lw_privs_2 : List (MethodName × Nat) := [(⟨"ShoeOrchard$OrchardReader", "readProduct", "(LShoeOrchard$Tape;I)Z"⟩, 2), (⟨"ShoeOrchard$OrchardReader", "readPart", "(LShoeOrchard$Tape;I)Z"⟩, 2), (⟨"ShoeOrchard$MorningReader", "readLine", "(LShoeOrchard$Tape;LShoeOrchard$Plan;)Z"⟩, 1), (⟨"ShoeOrchard$MorningReader", "readNamed", "(LShoeOrchard$Tape;LShoeOrchard$Plan;ZI)I"⟩, 1), (⟨"ShoeOrchard$Past", "dropOldest", "()V"⟩, 5), (⟨"ShoeOrchard$State", "putOn", "(II)V"⟩, 9), (⟨"ShoeOrchard", "measure", "(LShoeOrchard$State;)V"⟩, 14), (⟨"ShoeOrchard", "fittingTrees", "(LShoeOrchard$State;I)I"⟩, 14), (⟨"ShoeOrchard", "fittingPersons", "(I)I"⟩, 14), (⟨"ShoeOrchard", "matched", "(IZ)I"⟩, 14), (⟨"ShoeOrchard", "freeTrees", "()I"⟩, 14), (⟨"ShoeOrchard$Matching", "mostFrom", "(II)I"⟩, 7), (⟨"ShoeOrchard$Matching", "mostBy", "(III)I"⟩, 7), (⟨"ShoeOrchard$Matching", "firstOfMost", "(II)I"⟩, 7), (⟨"ShoeOrchard$Queue", "goOn", "(IIII)V"⟩, 9), (⟨"ShoeOrchard$Queue", "treeFor", "(II)I"⟩, 9)]
theorem lw_r2 : ∀ q ∈ lw_privs_2, lw_okq q := List.forall_mem_cons.mpr ⟨lw_p16, List.forall_mem_cons.mpr ⟨lw_p17, List.forall_mem_cons.mpr ⟨lw_p18, List.forall_mem_cons.mpr ⟨lw_p19, List.forall_mem_cons.mpr ⟨lw_p20, List.forall_mem_cons.mpr ⟨lw_p21, List.forall_mem_cons.mpr ⟨lw_p22, List.forall_mem_cons.mpr ⟨lw_p23, List.forall_mem_cons.mpr ⟨lw_p24, List.forall_mem_cons.mpr ⟨lw_p25, List.forall_mem_cons.mpr ⟨lw_p26, List.forall_mem_cons.mpr ⟨lw_p27, List.forall_mem_cons.mpr ⟨lw_p28, List.forall_mem_cons.mpr ⟨lw_p29, List.forall_mem_cons.mpr ⟨lw_p30, List.forall_mem_cons.mpr ⟨lw_p31, fun _ h => absurd h List.not_mem_nil⟩⟩⟩⟩⟩⟩⟩⟩⟩⟩⟩⟩⟩⟩⟩⟩
theorem lw_p32 : lw_okq (⟨"ShoeOrchard", "findFittingLasts", "(I)V"⟩, 14) := ⟨⟨by decide +kernel, by decide +kernel⟩, List.mem_of_getElem? (i := 28) (by decide +kernel), List.mem_of_getElem? (i := 1061) (by decide +kernel), List.mem_of_getElem? (i := 1062) (by decide +kernel)⟩
theorem lw_p33 : lw_okq (⟨"ShoeOrchard", "lastsThatFit", "(II)J"⟩, 14) := ⟨⟨by decide +kernel, by decide +kernel⟩, List.mem_of_getElem? (i := 28) (by decide +kernel), List.mem_of_getElem? (i := 1065) (by decide +kernel), List.mem_of_getElem? (i := 1066) (by decide +kernel)⟩
theorem lw_p34 : lw_okq (⟨"ShoeOrchard", "mendable", "(I)Z"⟩, 14) := ⟨⟨by decide +kernel, by decide +kernel⟩, List.mem_of_getElem? (i := 28) (by decide +kernel), List.mem_of_getElem? (i := 1071) (by decide +kernel), List.mem_of_getElem? (i := 1072) (by decide +kernel)⟩
theorem lw_p35 : lw_okq (⟨"ShoeOrchard", "someLastFits", "()Z"⟩, 14) := ⟨⟨by decide +kernel, by decide +kernel⟩, List.mem_of_getElem? (i := 28) (by decide +kernel), List.mem_of_getElem? (i := 1075) (by decide +kernel), List.mem_of_getElem? (i := 1076) (by decide +kernel)⟩
theorem lw_p36 : lw_okq (⟨"ShoeOrchard", "allowedFeetFitting", "(I)I"⟩, 14) := ⟨⟨by decide +kernel, by decide +kernel⟩, List.mem_of_getElem? (i := 28) (by decide +kernel), List.mem_of_getElem? (i := 1108) (by decide +kernel), List.mem_of_getElem? (i := 1109) (by decide +kernel)⟩
theorem lw_p37 : lw_okq (⟨"ShoeOrchard", "stepOfAges", "()Z"⟩, 14) := ⟨⟨by decide +kernel, by decide +kernel⟩, List.mem_of_getElem? (i := 28) (by decide +kernel), List.mem_of_getElem? (i := 1157) (by decide +kernel), List.mem_of_getElem? (i := 1158) (by decide +kernel)⟩
theorem lw_p38 : lw_okq (⟨"ShoeOrchard", "draw", "(I)I"⟩, 14) := ⟨⟨by decide +kernel, by decide +kernel⟩, List.mem_of_getElem? (i := 28) (by decide +kernel), List.mem_of_getElem? (i := 1161) (by decide +kernel), List.mem_of_getElem? (i := 1162) (by decide +kernel)⟩
theorem lw_p39 : lw_okq (⟨"java/lang/Throwable", "fillInStackTrace", "(I)Ljava/lang/Throwable;"⟩, 6) := ⟨⟨by decide +kernel, by decide +kernel⟩, List.mem_of_getElem? (i := 1242) (by decide +kernel), List.mem_of_getElem? (i := 1240) (by decide +kernel), List.mem_of_getElem? (i := 1241) (by decide +kernel)⟩
theorem lw_p40 : lw_okq (⟨"ShoeOrchardModel", "lay", "(J)V"⟩, 35) := ⟨⟨by decide +kernel, by decide +kernel⟩, List.mem_of_getElem? (i := 1285) (by decide +kernel), List.mem_of_getElem? (i := 1283) (by decide +kernel), List.mem_of_getElem? (i := 1284) (by decide +kernel)⟩
theorem lw_p41 : lw_okq (⟨"ShoeOrchardModel", "standsAsAlways", "(I)V"⟩, 35) := ⟨⟨by decide +kernel, by decide +kernel⟩, List.mem_of_getElem? (i := 1285) (by decide +kernel), List.mem_of_getElem? (i := 1322) (by decide +kernel), List.mem_of_getElem? (i := 1323) (by decide +kernel)⟩
theorem lw_p42 : lw_okq (⟨"ShoeOrchardModel", "begins", "()V"⟩, 35) := ⟨⟨by decide +kernel, by decide +kernel⟩, List.mem_of_getElem? (i := 1285) (by decide +kernel), List.mem_of_getElem? (i := 1326) (by decide +kernel), List.mem_of_getElem? (i := 1327) (by decide +kernel)⟩
theorem lw_p43 : lw_okq (⟨"ShoeOrchardModel", "starts", "(I)V"⟩, 35) := ⟨⟨by decide +kernel, by decide +kernel⟩, List.mem_of_getElem? (i := 1285) (by decide +kernel), List.mem_of_getElem? (i := 1330) (by decide +kernel), List.mem_of_getElem? (i := 1331) (by decide +kernel)⟩
theorem lw_p44 : lw_okq (⟨"ShoeOrchardModel", "trees", "()I"⟩, 35) := ⟨⟨by decide +kernel, by decide +kernel⟩, List.mem_of_getElem? (i := 1285) (by decide +kernel), List.mem_of_getElem? (i := 1334) (by decide +kernel), List.mem_of_getElem? (i := 1335) (by decide +kernel)⟩
theorem lw_p45 : lw_okq (⟨"ShoeOrchardModel", "treeOf", "(II)I"⟩, 35) := ⟨⟨by decide +kernel, by decide +kernel⟩, List.mem_of_getElem? (i := 1285) (by decide +kernel), List.mem_of_getElem? (i := 1338) (by decide +kernel), List.mem_of_getElem? (i := 1339) (by decide +kernel)⟩
theorem lw_p46 : lw_okq (⟨"ShoeOrchardModel", "persons", "()I"⟩, 35) := ⟨⟨by decide +kernel, by decide +kernel⟩, List.mem_of_getElem? (i := 1285) (by decide +kernel), List.mem_of_getElem? (i := 1342) (by decide +kernel), List.mem_of_getElem? (i := 1343) (by decide +kernel)⟩
theorem lw_p47 : lw_okq (⟨"ShoeOrchardModel", "personOf", "(II)I"⟩, 35) := ⟨⟨by decide +kernel, by decide +kernel⟩, List.mem_of_getElem? (i := 1285) (by decide +kernel), List.mem_of_getElem? (i := 1346) (by decide +kernel), List.mem_of_getElem? (i := 1347) (by decide +kernel)⟩
def lw_privs_3 : List (MethodName × Nat) := [(⟨"ShoeOrchard", "findFittingLasts", "(I)V"⟩, 14), (⟨"ShoeOrchard", "lastsThatFit", "(II)J"⟩, 14), (⟨"ShoeOrchard", "mendable", "(I)Z"⟩, 14), (⟨"ShoeOrchard", "someLastFits", "()Z"⟩, 14), (⟨"ShoeOrchard", "allowedFeetFitting", "(I)I"⟩, 14), (⟨"ShoeOrchard", "stepOfAges", "()Z"⟩, 14), (⟨"ShoeOrchard", "draw", "(I)I"⟩, 14), (⟨"java/lang/Throwable", "fillInStackTrace", "(I)Ljava/lang/Throwable;"⟩, 6), (⟨"ShoeOrchardModel", "lay", "(J)V"⟩, 35), (⟨"ShoeOrchardModel", "standsAsAlways", "(I)V"⟩, 35), (⟨"ShoeOrchardModel", "begins", "()V"⟩, 35), (⟨"ShoeOrchardModel", "starts", "(I)V"⟩, 35), (⟨"ShoeOrchardModel", "trees", "()I"⟩, 35), (⟨"ShoeOrchardModel", "treeOf", "(II)I"⟩, 35), (⟨"ShoeOrchardModel", "persons", "()I"⟩, 35), (⟨"ShoeOrchardModel", "personOf", "(II)I"⟩, 35)]
theorem lw_r3 : ∀ q ∈ lw_privs_3, lw_okq q := List.forall_mem_cons.mpr ⟨lw_p32, List.forall_mem_cons.mpr ⟨lw_p33, List.forall_mem_cons.mpr ⟨lw_p34, List.forall_mem_cons.mpr ⟨lw_p35, List.forall_mem_cons.mpr ⟨lw_p36, List.forall_mem_cons.mpr ⟨lw_p37, List.forall_mem_cons.mpr ⟨lw_p38, List.forall_mem_cons.mpr ⟨lw_p39, List.forall_mem_cons.mpr ⟨lw_p40, List.forall_mem_cons.mpr ⟨lw_p41, List.forall_mem_cons.mpr ⟨lw_p42, List.forall_mem_cons.mpr ⟨lw_p43, List.forall_mem_cons.mpr ⟨lw_p44, List.forall_mem_cons.mpr ⟨lw_p45, List.forall_mem_cons.mpr ⟨lw_p46, List.forall_mem_cons.mpr ⟨lw_p47, fun _ h => absurd h List.not_mem_nil⟩⟩⟩⟩⟩⟩⟩⟩⟩⟩⟩⟩⟩⟩⟩⟩
theorem lw_p48 : lw_okq (⟨"ShoeOrchardModel", "cutAll", "()V"⟩, 35) := ⟨⟨by decide +kernel, by decide +kernel⟩, List.mem_of_getElem? (i := 1285) (by decide +kernel), List.mem_of_getElem? (i := 1460) (by decide +kernel), List.mem_of_getElem? (i := 1461) (by decide +kernel)⟩
theorem lw_p49 : lw_okq (⟨"ShoeOrchardModel", "readLine", "()V"⟩, 35) := ⟨⟨by decide +kernel, by decide +kernel⟩, List.mem_of_getElem? (i := 1285) (by decide +kernel), List.mem_of_getElem? (i := 1479) (by decide +kernel), List.mem_of_getElem? (i := 1480) (by decide +kernel)⟩
theorem lw_p50 : lw_okq (⟨"ShoeOrchardModel", "isWord", "(I)Z"⟩, 35) := ⟨⟨by decide +kernel, by decide +kernel⟩, List.mem_of_getElem? (i := 1285) (by decide +kernel), List.mem_of_getElem? (i := 1483) (by decide +kernel), List.mem_of_getElem? (i := 1484) (by decide +kernel)⟩
theorem lw_p51 : lw_okq (⟨"ShoeOrchardModel", "readName", "(III)V"⟩, 35) := ⟨⟨by decide +kernel, by decide +kernel⟩, List.mem_of_getElem? (i := 1285) (by decide +kernel), List.mem_of_getElem? (i := 1487) (by decide +kernel), List.mem_of_getElem? (i := 1488) (by decide +kernel)⟩
theorem lw_p52 : lw_okq (⟨"ShoeOrchardModel", "wrong", "(I)V"⟩, 35) := ⟨⟨by decide +kernel, by decide +kernel⟩, List.mem_of_getElem? (i := 1285) (by decide +kernel), List.mem_of_getElem? (i := 1491) (by decide +kernel), List.mem_of_getElem? (i := 1492) (by decide +kernel)⟩
theorem lw_p53 : lw_okq (⟨"ShoeOrchardModel", "isName", "()Z"⟩, 35) := ⟨⟨by decide +kernel, by decide +kernel⟩, List.mem_of_getElem? (i := 1285) (by decide +kernel), List.mem_of_getElem? (i := 1495) (by decide +kernel), List.mem_of_getElem? (i := 1496) (by decide +kernel)⟩
theorem lw_p54 : lw_okq (⟨"ShoeOrchardModel", "wordHere", "(II)I"⟩, 35) := ⟨⟨by decide +kernel, by decide +kernel⟩, List.mem_of_getElem? (i := 1285) (by decide +kernel), List.mem_of_getElem? (i := 1499) (by decide +kernel), List.mem_of_getElem? (i := 1500) (by decide +kernel)⟩
theorem lw_p55 : lw_okq (⟨"ShoeOrchardModel", "nameAt", "(Z)I"⟩, 35) := ⟨⟨by decide +kernel, by decide +kernel⟩, List.mem_of_getElem? (i := 1285) (by decide +kernel), List.mem_of_getElem? (i := 1503) (by decide +kernel), List.mem_of_getElem? (i := 1504) (by decide +kernel)⟩
theorem lw_p56 : lw_okq (⟨"ShoeOrchardModel", "takeOne", "(II)I"⟩, 35) := ⟨⟨by decide +kernel, by decide +kernel⟩, List.mem_of_getElem? (i := 1285) (by decide +kernel), List.mem_of_getElem? (i := 1507) (by decide +kernel), List.mem_of_getElem? (i := 1508) (by decide +kernel)⟩
theorem lw_p57 : lw_okq (⟨"ShoeOrchardModel", "takeAfter", "(III)I"⟩, 35) := ⟨⟨by decide +kernel, by decide +kernel⟩, List.mem_of_getElem? (i := 1285) (by decide +kernel), List.mem_of_getElem? (i := 1511) (by decide +kernel), List.mem_of_getElem? (i := 1512) (by decide +kernel)⟩
theorem lw_p58 : lw_okq (⟨"ShoeOrchardModel", "takeWord", "(I)V"⟩, 35) := ⟨⟨by decide +kernel, by decide +kernel⟩, List.mem_of_getElem? (i := 1285) (by decide +kernel), List.mem_of_getElem? (i := 1515) (by decide +kernel), List.mem_of_getElem? (i := 1516) (by decide +kernel)⟩
theorem lw_p59 : lw_okq (⟨"ShoeOrchardModel", "hasWord", "(I)Z"⟩, 35) := ⟨⟨by decide +kernel, by decide +kernel⟩, List.mem_of_getElem? (i := 1285) (by decide +kernel), List.mem_of_getElem? (i := 1519) (by decide +kernel), List.mem_of_getElem? (i := 1520) (by decide +kernel)⟩
theorem lw_p60 : lw_okq (⟨"ShoeOrchardModel", "takeNumber", "(II)I"⟩, 35) := ⟨⟨by decide +kernel, by decide +kernel⟩, List.mem_of_getElem? (i := 1285) (by decide +kernel), List.mem_of_getElem? (i := 1523) (by decide +kernel), List.mem_of_getElem? (i := 1524) (by decide +kernel)⟩
theorem lw_p61 : lw_okq (⟨"ShoeOrchardModel", "readOnce", "()V"⟩, 35) := ⟨⟨by decide +kernel, by decide +kernel⟩, List.mem_of_getElem? (i := 1285) (by decide +kernel), List.mem_of_getElem? (i := 1527) (by decide +kernel), List.mem_of_getElem? (i := 1528) (by decide +kernel)⟩
theorem lw_p62 : lw_okq (⟨"ShoeOrchardModel", "readFrost", "()V"⟩, 35) := ⟨⟨by decide +kernel, by decide +kernel⟩, List.mem_of_getElem? (i := 1285) (by decide +kernel), List.mem_of_getElem? (i := 1531) (by decide +kernel), List.mem_of_getElem? (i := 1532) (by decide +kernel)⟩
theorem lw_p63 : lw_okq (⟨"ShoeOrchardModel", "whole", "(I)V"⟩, 35) := ⟨⟨by decide +kernel, by decide +kernel⟩, List.mem_of_getElem? (i := 1285) (by decide +kernel), List.mem_of_getElem? (i := 1535) (by decide +kernel), List.mem_of_getElem? (i := 1536) (by decide +kernel)⟩
def lw_privs_4 : List (MethodName × Nat) := [(⟨"ShoeOrchardModel", "cutAll", "()V"⟩, 35), (⟨"ShoeOrchardModel", "readLine", "()V"⟩, 35), (⟨"ShoeOrchardModel", "isWord", "(I)Z"⟩, 35), (⟨"ShoeOrchardModel", "readName", "(III)V"⟩, 35), (⟨"ShoeOrchardModel", "wrong", "(I)V"⟩, 35), (⟨"ShoeOrchardModel", "isName", "()Z"⟩, 35), (⟨"ShoeOrchardModel", "wordHere", "(II)I"⟩, 35), (⟨"ShoeOrchardModel", "nameAt", "(Z)I"⟩, 35), (⟨"ShoeOrchardModel", "takeOne", "(II)I"⟩, 35), (⟨"ShoeOrchardModel", "takeAfter", "(III)I"⟩, 35), (⟨"ShoeOrchardModel", "takeWord", "(I)V"⟩, 35), (⟨"ShoeOrchardModel", "hasWord", "(I)Z"⟩, 35), (⟨"ShoeOrchardModel", "takeNumber", "(II)I"⟩, 35), (⟨"ShoeOrchardModel", "readOnce", "()V"⟩, 35), (⟨"ShoeOrchardModel", "readFrost", "()V"⟩, 35), (⟨"ShoeOrchardModel", "whole", "(I)V"⟩, 35)]
theorem lw_r4 : ∀ q ∈ lw_privs_4, lw_okq q := List.forall_mem_cons.mpr ⟨lw_p48, List.forall_mem_cons.mpr ⟨lw_p49, List.forall_mem_cons.mpr ⟨lw_p50, List.forall_mem_cons.mpr ⟨lw_p51, List.forall_mem_cons.mpr ⟨lw_p52, List.forall_mem_cons.mpr ⟨lw_p53, List.forall_mem_cons.mpr ⟨lw_p54, List.forall_mem_cons.mpr ⟨lw_p55, List.forall_mem_cons.mpr ⟨lw_p56, List.forall_mem_cons.mpr ⟨lw_p57, List.forall_mem_cons.mpr ⟨lw_p58, List.forall_mem_cons.mpr ⟨lw_p59, List.forall_mem_cons.mpr ⟨lw_p60, List.forall_mem_cons.mpr ⟨lw_p61, List.forall_mem_cons.mpr ⟨lw_p62, List.forall_mem_cons.mpr ⟨lw_p63, fun _ h => absurd h List.not_mem_nil⟩⟩⟩⟩⟩⟩⟩⟩⟩⟩⟩⟩⟩⟩⟩⟩
theorem lw_p64 : lw_okq (⟨"ShoeOrchardModel", "test", "(I)V"⟩, 35) := ⟨⟨by decide +kernel, by decide +kernel⟩, List.mem_of_getElem? (i := 1285) (by decide +kernel), List.mem_of_getElem? (i := 1539) (by decide +kernel), List.mem_of_getElem? (i := 1540) (by decide +kernel)⟩
theorem lw_p65 : lw_okq (⟨"ShoeOrchardModel", "sums", "(I)V"⟩, 35) := ⟨⟨by decide +kernel, by decide +kernel⟩, List.mem_of_getElem? (i := 1285) (by decide +kernel), List.mem_of_getElem? (i := 1543) (by decide +kernel), List.mem_of_getElem? (i := 1544) (by decide +kernel)⟩
theorem lw_p66 : lw_okq (⟨"ShoeOrchardModel", "products", "(I)V"⟩, 35) := ⟨⟨by decide +kernel, by decide +kernel⟩, List.mem_of_getElem? (i := 1285) (by decide +kernel), List.mem_of_getElem? (i := 1547) (by decide +kernel), List.mem_of_getElem? (i := 1548) (by decide +kernel)⟩
theorem lw_p67 : lw_okq (⟨"ShoeOrchardModel", "takePart", "(I)V"⟩, 35) := ⟨⟨by decide +kernel, by decide +kernel⟩, List.mem_of_getElem? (i := 1285) (by decide +kernel), List.mem_of_getElem? (i := 1551) (by decide +kernel), List.mem_of_getElem? (i := 1552) (by decide +kernel)⟩
theorem lw_p68 : lw_okq (⟨"ShoeOrchardModel", "isSign", "(I)Z"⟩, 35) := ⟨⟨by decide +kernel, by decide +kernel⟩, List.mem_of_getElem? (i := 1285) (by decide +kernel), List.mem_of_getElem? (i := 1555) (by decide +kernel), List.mem_of_getElem? (i := 1556) (by decide +kernel)⟩
theorem lw_p69 : lw_okq (⟨"ShoeOrchardModel", "emit", "(II)V"⟩, 35) := ⟨⟨by decide +kernel, by decide +kernel⟩, List.mem_of_getElem? (i := 1285) (by decide +kernel), List.mem_of_getElem? (i := 1559) (by decide +kernel), List.mem_of_getElem? (i := 1560) (by decide +kernel)⟩
theorem lw_p70 : lw_okq (⟨"ShoeOrchardModel", "hasSign", "(I)Z"⟩, 35) := ⟨⟨by decide +kernel, by decide +kernel⟩, List.mem_of_getElem? (i := 1285) (by decide +kernel), List.mem_of_getElem? (i := 1563) (by decide +kernel), List.mem_of_getElem? (i := 1564) (by decide +kernel)⟩
theorem lw_p71 : lw_okq (⟨"ShoeOrchardModel", "takeSign", "(I)V"⟩, 35) := ⟨⟨by decide +kernel, by decide +kernel⟩, List.mem_of_getElem? (i := 1285) (by decide +kernel), List.mem_of_getElem? (i := 1567) (by decide +kernel), List.mem_of_getElem? (i := 1568) (by decide +kernel)⟩
theorem lw_p72 : lw_okq (⟨"ShoeOrchardModel", "takeTold", "(II)I"⟩, 35) := ⟨⟨by decide +kernel, by decide +kernel⟩, List.mem_of_getElem? (i := 1285) (by decide +kernel), List.mem_of_getElem? (i := 1575) (by decide +kernel), List.mem_of_getElem? (i := 1576) (by decide +kernel)⟩
theorem lw_p73 : lw_okq (⟨"ShoeOrchardModel", "isTree", "(I)Z"⟩, 35) := ⟨⟨by decide +kernel, by decide +kernel⟩, List.mem_of_getElem? (i := 1285) (by decide +kernel), List.mem_of_getElem? (i := 1586) (by decide +kernel), List.mem_of_getElem? (i := 1587) (by decide +kernel)⟩
theorem lw_p74 : lw_okq (⟨"ShoeOrchardModel", "doesBear", "(II)Z"⟩, 35) := ⟨⟨by decide +kernel, by decide +kernel⟩, List.mem_of_getElem? (i := 1285) (by decide +kernel), List.mem_of_getElem? (i := 1590) (by decide +kernel), List.mem_of_getElem? (i := 1591) (by decide +kernel)⟩
theorem lw_p75 : lw_okq (⟨"ShoeOrchardModel", "frostOf", "(I)I"⟩, 35) := ⟨⟨by decide +kernel, by decide +kernel⟩, List.mem_of_getElem? (i := 1285) (by decide +kernel), List.mem_of_getElem? (i := 1594) (by decide +kernel), List.mem_of_getElem? (i := 1595) (by decide +kernel)⟩
theorem lw_p76 : lw_okq (⟨"ShoeOrchardModel", "stands", "(II)Z"⟩, 35) := ⟨⟨by decide +kernel, by decide +kernel⟩, List.mem_of_getElem? (i := 1285) (by decide +kernel), List.mem_of_getElem? (i := 1598) (by decide +kernel), List.mem_of_getElem? (i := 1599) (by decide +kernel)⟩
theorem lw_p77 : lw_okq (⟨"ShoeOrchardModel", "sizeOf", "(II)I"⟩, 35) := ⟨⟨by decide +kernel, by decide +kernel⟩, List.mem_of_getElem? (i := 1285) (by decide +kernel), List.mem_of_getElem? (i := 1602) (by decide +kernel), List.mem_of_getElem? (i := 1603) (by decide +kernel)⟩
theorem lw_p78 : lw_okq (⟨"ShoeOrchardModel", "worthAt", "(I)I"⟩, 35) := ⟨⟨by decide +kernel, by decide +kernel⟩, List.mem_of_getElem? (i := 1285) (by decide +kernel), List.mem_of_getElem? (i := 1606) (by decide +kernel), List.mem_of_getElem? (i := 1607) (by decide +kernel)⟩
theorem lw_p79 : lw_okq (⟨"ShoeOrchardModel", "haveOf", "(II)I"⟩, 35) := ⟨⟨by decide +kernel, by decide +kernel⟩, List.mem_of_getElem? (i := 1285) (by decide +kernel), List.mem_of_getElem? (i := 1613) (by decide +kernel), List.mem_of_getElem? (i := 1614) (by decide +kernel)⟩
def lw_privs_5 : List (MethodName × Nat) := [(⟨"ShoeOrchardModel", "test", "(I)V"⟩, 35), (⟨"ShoeOrchardModel", "sums", "(I)V"⟩, 35), (⟨"ShoeOrchardModel", "products", "(I)V"⟩, 35), (⟨"ShoeOrchardModel", "takePart", "(I)V"⟩, 35), (⟨"ShoeOrchardModel", "isSign", "(I)Z"⟩, 35), (⟨"ShoeOrchardModel", "emit", "(II)V"⟩, 35), (⟨"ShoeOrchardModel", "hasSign", "(I)Z"⟩, 35), (⟨"ShoeOrchardModel", "takeSign", "(I)V"⟩, 35), (⟨"ShoeOrchardModel", "takeTold", "(II)I"⟩, 35), (⟨"ShoeOrchardModel", "isTree", "(I)Z"⟩, 35), (⟨"ShoeOrchardModel", "doesBear", "(II)Z"⟩, 35), (⟨"ShoeOrchardModel", "frostOf", "(I)I"⟩, 35), (⟨"ShoeOrchardModel", "stands", "(II)Z"⟩, 35), (⟨"ShoeOrchardModel", "sizeOf", "(II)I"⟩, 35), (⟨"ShoeOrchardModel", "worthAt", "(I)I"⟩, 35), (⟨"ShoeOrchardModel", "haveOf", "(II)I"⟩, 35)]
theorem lw_r5 : ∀ q ∈ lw_privs_5, lw_okq q := List.forall_mem_cons.mpr ⟨lw_p64, List.forall_mem_cons.mpr ⟨lw_p65, List.forall_mem_cons.mpr ⟨lw_p66, List.forall_mem_cons.mpr ⟨lw_p67, List.forall_mem_cons.mpr ⟨lw_p68, List.forall_mem_cons.mpr ⟨lw_p69, List.forall_mem_cons.mpr ⟨lw_p70, List.forall_mem_cons.mpr ⟨lw_p71, List.forall_mem_cons.mpr ⟨lw_p72, List.forall_mem_cons.mpr ⟨lw_p73, List.forall_mem_cons.mpr ⟨lw_p74, List.forall_mem_cons.mpr ⟨lw_p75, List.forall_mem_cons.mpr ⟨lw_p76, List.forall_mem_cons.mpr ⟨lw_p77, List.forall_mem_cons.mpr ⟨lw_p78, List.forall_mem_cons.mpr ⟨lw_p79, fun _ h => absurd h List.not_mem_nil⟩⟩⟩⟩⟩⟩⟩⟩⟩⟩⟩⟩⟩⟩⟩⟩
theorem lw_p80 : lw_okq (⟨"ShoeOrchardModel", "isPerson", "(I)Z"⟩, 35) := ⟨⟨by decide +kernel, by decide +kernel⟩, List.mem_of_getElem? (i := 1285) (by decide +kernel), List.mem_of_getElem? (i := 1621) (by decide +kernel), List.mem_of_getElem? (i := 1622) (by decide +kernel)⟩
theorem lw_p81 : lw_okq (⟨"ShoeOrchardModel", "doesFit", "(III)Z"⟩, 35) := ⟨⟨by decide +kernel, by decide +kernel⟩, List.mem_of_getElem? (i := 1285) (by decide +kernel), List.mem_of_getElem? (i := 1629) (by decide +kernel), List.mem_of_getElem? (i := 1630) (by decide +kernel)⟩
theorem lw_p82 : lw_okq (⟨"ShoeOrchardModel", "pinchBy", "(III)I"⟩, 35) := ⟨⟨by decide +kernel, by decide +kernel⟩, List.mem_of_getElem? (i := 1285) (by decide +kernel), List.mem_of_getElem? (i := 1633) (by decide +kernel), List.mem_of_getElem? (i := 1634) (by decide +kernel)⟩
theorem lw_p83 : lw_okq (⟨"ShoeOrchardModel", "mayTry", "(III)Z"⟩, 35) := ⟨⟨by decide +kernel, by decide +kernel⟩, List.mem_of_getElem? (i := 1285) (by decide +kernel), List.mem_of_getElem? (i := 1644) (by decide +kernel), List.mem_of_getElem? (i := 1645) (by decide +kernel)⟩
theorem lw_p84 : lw_okq (⟨"ShoeOrchardModel", "keeps", "()V"⟩, 35) := ⟨⟨by decide +kernel, by decide +kernel⟩, List.mem_of_getElem? (i := 1285) (by decide +kernel), List.mem_of_getElem? (i := 1648) (by decide +kernel), List.mem_of_getElem? (i := 1649) (by decide +kernel)⟩
theorem lw_p85 : lw_okq (⟨"ShoeOrchardModel", "copies", "(III)V"⟩, 35) := ⟨⟨by decide +kernel, by decide +kernel⟩, List.mem_of_getElem? (i := 1285) (by decide +kernel), List.mem_of_getElem? (i := 1652) (by decide +kernel), List.mem_of_getElem? (i := 1653) (by decide +kernel)⟩
theorem lw_p86 : lw_okq (⟨"ShoeOrchardModel", "tries", "(III)Z"⟩, 35) := ⟨⟨by decide +kernel, by decide +kernel⟩, List.mem_of_getElem? (i := 1285) (by decide +kernel), List.mem_of_getElem? (i := 1656) (by decide +kernel), List.mem_of_getElem? (i := 1657) (by decide +kernel)⟩
theorem lw_p87 : lw_okq (⟨"ShoeOrchardModel", "isShodBy", "(III)V"⟩, 35) := ⟨⟨by decide +kernel, by decide +kernel⟩, List.mem_of_getElem? (i := 1285) (by decide +kernel), List.mem_of_getElem? (i := 1660) (by decide +kernel), List.mem_of_getElem? (i := 1661) (by decide +kernel)⟩
theorem lw_p88 : lw_okq (⟨"ShoeOrchardModel", "roadBy", "(I)I"⟩, 35) := ⟨⟨by decide +kernel, by decide +kernel⟩, List.mem_of_getElem? (i := 1285) (by decide +kernel), List.mem_of_getElem? (i := 1664) (by decide +kernel), List.mem_of_getElem? (i := 1665) (by decide +kernel)⟩
theorem lw_p89 : lw_okq (⟨"ShoeOrchardModel", "mayShare", "(III)Z"⟩, 35) := ⟨⟨by decide +kernel, by decide +kernel⟩, List.mem_of_getElem? (i := 1285) (by decide +kernel), List.mem_of_getElem? (i := 1672) (by decide +kernel), List.mem_of_getElem? (i := 1673) (by decide +kernel)⟩
theorem lw_p90 : lw_okq (⟨"ShoeOrchardModel", "shares", "(III)V"⟩, 35) := ⟨⟨by decide +kernel, by decide +kernel⟩, List.mem_of_getElem? (i := 1285) (by decide +kernel), List.mem_of_getElem? (i := 1676) (by decide +kernel), List.mem_of_getElem? (i := 1677) (by decide +kernel)⟩
theorem lw_p91 : lw_okq (⟨"ShoeOrchardModel", "grafts", "(III)V"⟩, 35) := ⟨⟨by decide +kernel, by decide +kernel⟩, List.mem_of_getElem? (i := 1285) (by decide +kernel), List.mem_of_getElem? (i := 1684) (by decide +kernel), List.mem_of_getElem? (i := 1685) (by decide +kernel)⟩
theorem lw_p92 : lw_okq (⟨"ShoeOrchardModel", "prunes", "(II)V"⟩, 35) := ⟨⟨by decide +kernel, by decide +kernel⟩, List.mem_of_getElem? (i := 1285) (by decide +kernel), List.mem_of_getElem? (i := 1692) (by decide +kernel), List.mem_of_getElem? (i := 1693) (by decide +kernel)⟩
theorem lw_p93 : lw_okq (⟨"ShoeOrchardModel", "passes", "(II)V"⟩, 35) := ⟨⟨by decide +kernel, by decide +kernel⟩, List.mem_of_getElem? (i := 1285) (by decide +kernel), List.mem_of_getElem? (i := 1700) (by decide +kernel), List.mem_of_getElem? (i := 1701) (by decide +kernel)⟩
theorem lw_p94 : lw_okq (⟨"ShoeOrchardModel", "roadOfAll", "(I)I"⟩, 35) := ⟨⟨by decide +kernel, by decide +kernel⟩, List.mem_of_getElem? (i := 1285) (by decide +kernel), List.mem_of_getElem? (i := 1712) (by decide +kernel), List.mem_of_getElem? (i := 1713) (by decide +kernel)⟩
theorem lw_p95 : lw_okq (⟨"ShoeOrchardModel", "fittedOf", "(II)I"⟩, 35) := ⟨⟨by decide +kernel, by decide +kernel⟩, List.mem_of_getElem? (i := 1285) (by decide +kernel), List.mem_of_getElem? (i := 1720) (by decide +kernel), List.mem_of_getElem? (i := 1721) (by decide +kernel)⟩
def lw_privs_6 : List (MethodName × Nat) := [(⟨"ShoeOrchardModel", "isPerson", "(I)Z"⟩, 35), (⟨"ShoeOrchardModel", "doesFit", "(III)Z"⟩, 35), (⟨"ShoeOrchardModel", "pinchBy", "(III)I"⟩, 35), (⟨"ShoeOrchardModel", "mayTry", "(III)Z"⟩, 35), (⟨"ShoeOrchardModel", "keeps", "()V"⟩, 35), (⟨"ShoeOrchardModel", "copies", "(III)V"⟩, 35), (⟨"ShoeOrchardModel", "tries", "(III)Z"⟩, 35), (⟨"ShoeOrchardModel", "isShodBy", "(III)V"⟩, 35), (⟨"ShoeOrchardModel", "roadBy", "(I)I"⟩, 35), (⟨"ShoeOrchardModel", "mayShare", "(III)Z"⟩, 35), (⟨"ShoeOrchardModel", "shares", "(III)V"⟩, 35), (⟨"ShoeOrchardModel", "grafts", "(III)V"⟩, 35), (⟨"ShoeOrchardModel", "prunes", "(II)V"⟩, 35), (⟨"ShoeOrchardModel", "passes", "(II)V"⟩, 35), (⟨"ShoeOrchardModel", "roadOfAll", "(I)I"⟩, 35), (⟨"ShoeOrchardModel", "fittedOf", "(II)I"⟩, 35)]
theorem lw_r6 : ∀ q ∈ lw_privs_6, lw_okq q := List.forall_mem_cons.mpr ⟨lw_p80, List.forall_mem_cons.mpr ⟨lw_p81, List.forall_mem_cons.mpr ⟨lw_p82, List.forall_mem_cons.mpr ⟨lw_p83, List.forall_mem_cons.mpr ⟨lw_p84, List.forall_mem_cons.mpr ⟨lw_p85, List.forall_mem_cons.mpr ⟨lw_p86, List.forall_mem_cons.mpr ⟨lw_p87, List.forall_mem_cons.mpr ⟨lw_p88, List.forall_mem_cons.mpr ⟨lw_p89, List.forall_mem_cons.mpr ⟨lw_p90, List.forall_mem_cons.mpr ⟨lw_p91, List.forall_mem_cons.mpr ⟨lw_p92, List.forall_mem_cons.mpr ⟨lw_p93, List.forall_mem_cons.mpr ⟨lw_p94, List.forall_mem_cons.mpr ⟨lw_p95, fun _ h => absurd h List.not_mem_nil⟩⟩⟩⟩⟩⟩⟩⟩⟩⟩⟩⟩⟩⟩⟩⟩
theorem lw_p96 : lw_okq (⟨"ShoeOrchardModel", "wearersOf", "(I)I"⟩, 35) := ⟨⟨by decide +kernel, by decide +kernel⟩, List.mem_of_getElem? (i := 1285) (by decide +kernel), List.mem_of_getElem? (i := 1728) (by decide +kernel), List.mem_of_getElem? (i := 1729) (by decide +kernel)⟩
theorem lw_p97 : lw_okq (⟨"ShoeOrchardModel", "dealtTo", "(IZ)I"⟩, 35) := ⟨⟨by decide +kernel, by decide +kernel⟩, List.mem_of_getElem? (i := 1285) (by decide +kernel), List.mem_of_getElem? (i := 1736) (by decide +kernel), List.mem_of_getElem? (i := 1737) (by decide +kernel)⟩
theorem lw_p98 : lw_okq (⟨"ShoeOrchardModel", "deals", "(IIIZ)V"⟩, 35) := ⟨⟨by decide +kernel, by decide +kernel⟩, List.mem_of_getElem? (i := 1285) (by decide +kernel), List.mem_of_getElem? (i := 1740) (by decide +kernel), List.mem_of_getElem? (i := 1741) (by decide +kernel)⟩
theorem lw_p99 : lw_okq (⟨"ShoeOrchardModel", "shodOf", "(I)I"⟩, 35) := ⟨⟨by decide +kernel, by decide +kernel⟩, List.mem_of_getElem? (i := 1285) (by decide +kernel), List.mem_of_getElem? (i := 1752) (by decide +kernel), List.mem_of_getElem? (i := 1753) (by decide +kernel)⟩
theorem lw_p100 : lw_okq (⟨"ShoeOrchardModel", "orders", "(II)V"⟩, 35) := ⟨⟨by decide +kernel, by decide +kernel⟩, List.mem_of_getElem? (i := 1285) (by decide +kernel), List.mem_of_getElem? (i := 1759) (by decide +kernel), List.mem_of_getElem? (i := 1760) (by decide +kernel)⟩
theorem lw_p101 : lw_okq (⟨"ShoeOrchardModel", "goesOut", "(I)V"⟩, 35) := ⟨⟨by decide +kernel, by decide +kernel⟩, List.mem_of_getElem? (i := 1285) (by decide +kernel), List.mem_of_getElem? (i := 1763) (by decide +kernel), List.mem_of_getElem? (i := 1764) (by decide +kernel)⟩
theorem lw_p102 : lw_okq (⟨"ShoeOrchardModel", "isMended", "(III)Z"⟩, 35) := ⟨⟨by decide +kernel, by decide +kernel⟩, List.mem_of_getElem? (i := 1285) (by decide +kernel), List.mem_of_getElem? (i := 1771) (by decide +kernel), List.mem_of_getElem? (i := 1772) (by decide +kernel)⟩
theorem lw_p103 : lw_okq (⟨"ShoeOrchardModel", "isFelt", "(I)Z"⟩, 35) := ⟨⟨by decide +kernel, by decide +kernel⟩, List.mem_of_getElem? (i := 1285) (by decide +kernel), List.mem_of_getElem? (i := 1795) (by decide +kernel), List.mem_of_getElem? (i := 1796) (by decide +kernel)⟩
theorem lw_p104 : lw_okq (⟨"ShoeOrchardModel", "fitsFeet", "(II)Z"⟩, 35) := ⟨⟨by decide +kernel, by decide +kernel⟩, List.mem_of_getElem? (i := 1285) (by decide +kernel), List.mem_of_getElem? (i := 1799) (by decide +kernel), List.mem_of_getElem? (i := 1800) (by decide +kernel)⟩
theorem lw_p105 : lw_okq (⟨"ShoeOrchardModel", "drawsDeeds", "()Z"⟩, 35) := ⟨⟨by decide +kernel, by decide +kernel⟩, List.mem_of_getElem? (i := 1285) (by decide +kernel), List.mem_of_getElem? (i := 1843) (by decide +kernel), List.mem_of_getElem? (i := 1844) (by decide +kernel)⟩
theorem lw_p106 : lw_okq (⟨"ShoeOrchardModel", "draw", "(I)I"⟩, 35) := ⟨⟨by decide +kernel, by decide +kernel⟩, List.mem_of_getElem? (i := 1285) (by decide +kernel), List.mem_of_getElem? (i := 1847) (by decide +kernel), List.mem_of_getElem? (i := 1848) (by decide +kernel)⟩
theorem lw_p107 : lw_okq (⟨"ShoeOrchardModel", "bearing", "()I"⟩, 35) := ⟨⟨by decide +kernel, by decide +kernel⟩, List.mem_of_getElem? (i := 1285) (by decide +kernel), List.mem_of_getElem? (i := 1863) (by decide +kernel), List.mem_of_getElem? (i := 1864) (by decide +kernel)⟩
def lw_privs_7 : List (MethodName × Nat) := [(⟨"ShoeOrchardModel", "wearersOf", "(I)I"⟩, 35), (⟨"ShoeOrchardModel", "dealtTo", "(IZ)I"⟩, 35), (⟨"ShoeOrchardModel", "deals", "(IIIZ)V"⟩, 35), (⟨"ShoeOrchardModel", "shodOf", "(I)I"⟩, 35), (⟨"ShoeOrchardModel", "orders", "(II)V"⟩, 35), (⟨"ShoeOrchardModel", "goesOut", "(I)V"⟩, 35), (⟨"ShoeOrchardModel", "isMended", "(III)Z"⟩, 35), (⟨"ShoeOrchardModel", "isFelt", "(I)Z"⟩, 35), (⟨"ShoeOrchardModel", "fitsFeet", "(II)Z"⟩, 35), (⟨"ShoeOrchardModel", "drawsDeeds", "()Z"⟩, 35), (⟨"ShoeOrchardModel", "draw", "(I)I"⟩, 35), (⟨"ShoeOrchardModel", "bearing", "()I"⟩, 35)]
theorem lw_r7 : ∀ q ∈ lw_privs_7, lw_okq q := List.forall_mem_cons.mpr ⟨lw_p96, List.forall_mem_cons.mpr ⟨lw_p97, List.forall_mem_cons.mpr ⟨lw_p98, List.forall_mem_cons.mpr ⟨lw_p99, List.forall_mem_cons.mpr ⟨lw_p100, List.forall_mem_cons.mpr ⟨lw_p101, List.forall_mem_cons.mpr ⟨lw_p102, List.forall_mem_cons.mpr ⟨lw_p103, List.forall_mem_cons.mpr ⟨lw_p104, List.forall_mem_cons.mpr ⟨lw_p105, List.forall_mem_cons.mpr ⟨lw_p106, List.forall_mem_cons.mpr ⟨lw_p107, fun _ h => absurd h List.not_mem_nil⟩⟩⟩⟩⟩⟩⟩⟩⟩⟩⟩⟩
def lw_privs : List (MethodName × Nat) := lw_privs_1 ++ (lw_privs_2 ++ (lw_privs_3 ++ (lw_privs_4 ++ (lw_privs_5 ++ (lw_privs_6 ++ (lw_privs_7))))))
def lw_tbl : List Cond := k2_sels lw_privs ++ tables_1
theorem lw_privs_ok : ∀ q ∈ lw_privs, lw_okq q := by
  show ∀ q ∈ lw_privs_1 ++ (lw_privs_2 ++ (lw_privs_3 ++ (lw_privs_4 ++ (lw_privs_5 ++ (lw_privs_6 ++ (lw_privs_7)))))), lw_okq q
  exact List.forall_mem_append.mpr ⟨lw_r1, List.forall_mem_append.mpr ⟨lw_r2, List.forall_mem_append.mpr ⟨lw_r3, List.forall_mem_append.mpr ⟨lw_r4, List.forall_mem_append.mpr ⟨lw_r5, List.forall_mem_append.mpr ⟨lw_r6, lw_r7⟩⟩⟩⟩⟩⟩
end
section
/-! tables of the program: names, links, methods (by program out of the class files) -/
def gT : List Cond := lw_tbl.filter goodWord
theorem gT_in {α : Type} (f : α → Cond) (qs : List (α × Nat)) (h : qs.all (fun q => decide (lw_tbl[q.2]? = some (f q.1)) && goodWord (f q.1)) = true) : ∀ q ∈ qs, f q.1 ∈ gT := by
  intro q hq
  have h1 := List.all_eq_true.mp h q hq
  rw [Bool.and_eq_true] at h1
  exact List.mem_filter.mpr ⟨List.mem_of_getElem? (of_decide_eq_true h1.1), h1.2⟩
theorem tb_in {α : Type} (f : α → Cond) (qs : List (α × Nat)) (h : qs.all (fun q => decide (lw_tbl[q.2]? = some (f q.1))) = true) : ∀ q ∈ qs, f q.1 ∈ lw_tbl := by
  intro q hq
  have h1 := List.all_eq_true.mp h q hq
  exact List.mem_of_getElem? (of_decide_eq_true h1)
theorem gT_good : GoodIn gT gT := fun w hw => ⟨hw, good_of_word (List.mem_filter.mp hw).2⟩
def onL : List String := ["ShoeOrchard$Felt", "ShoeOrchard$Formula", "ShoeOrchard$Lines", "ShoeOrchard$Matching", "ShoeOrchard$MorningReader", "ShoeOrchard$OrchardReader", "ShoeOrchard$Past", "ShoeOrchard$Plan", "ShoeOrchard$Queue", "ShoeOrchard$State", "ShoeOrchard$Tape", "ShoeOrchard", "ShoeOrchardModel", "ShoeOrchardLaw", "java/lang/String", "java/lang/StringLatin1", "java/util/Arrays", "java/lang/Integer", "java/lang/Math", "jdk/internal/util/Preconditions"]
def on (o : Nat) : String := onL.getD o ""
def cT0 : u_T := fun k => match k with
  | 0 => ("ShoeOrchard$Felt", "length", "I", false)
  | 1 => ("ShoeOrchard$Felt", "trees", "[I", true)
  | _ => ("ShoeOrchard$Felt", "fitted", "[Z", true)
def cT1 : u_T := fun k => match k with
  | 0 => ("ShoeOrchard$Formula", "steps", "[I", true)
  | 1 => ("ShoeOrchard$Formula", "stack", "[I", true)
  | _ => ("ShoeOrchard$Formula", "length", "I", false)
def cT2 : u_T := fun k => match k with
  | 0 => ("ShoeOrchard$Lines", "length", "I", false)
  | 1 => ("ShoeOrchard$Lines", "kind", "[I", true)
  | 2 => ("ShoeOrchard$Lines", "first", "[I", true)
  | _ => ("ShoeOrchard$Lines", "second", "[I", true)
def cT3 : u_T := fun k => match k with
  | 0 => ("ShoeOrchard$Matching", "total", "I", false)
  | 1 => ("ShoeOrchard$Matching", "choices", "[I", true)
  | 2 => ("ShoeOrchard$Matching", "worth", "[I", true)
  | 3 => ("ShoeOrchard$Matching", "row", "[I", true)
  | 4 => ("ShoeOrchard$Matching", "persons", "I", false)
  | 5 => ("ShoeOrchard$Matching", "trees", "I", false)
  | _ => ("ShoeOrchard$Matching", "most", "[I", true)
def cT4 : u_T := fun k => match k with
  | _ => ("ShoeOrchard$MorningReader", "lines", "LShoeOrchard$Lines;", true)
def cT5 : u_T := fun k => match k with
  | 0 => ("ShoeOrchard$OrchardReader", "plan", "LShoeOrchard$Plan;", true)
  | _ => ("ShoeOrchard$OrchardReader", "stood", "I", false)
def cT6 : u_T := fun k => match k with
  | 0 => ("ShoeOrchard$Past", "length", "I", false)
  | 1 => ("ShoeOrchard$Past", "kept", "[LShoeOrchard$State;", true)
  | 2 => ("ShoeOrchard$Past", "markedState", "[LShoeOrchard$State;", true)
  | 3 => ("ShoeOrchard$Past", "markedFelt", "[LShoeOrchard$Felt;", true)
  | _ => ("ShoeOrchard$Past", "laid", "[Z", true)
def cT7 : u_T := fun k => match k with
  | 0 => ("ShoeOrchard$Plan", "trees", "I", false)
  | 1 => ("ShoeOrchard$Plan", "persons", "I", false)
  | 2 => ("ShoeOrchard$Plan", "pinch", "I", false)
  | 3 => ("ShoeOrchard$Plan", "noon", "I", false)
  | 4 => ("ShoeOrchard$Plan", "frosts", "I", false)
  | 5 => ("ShoeOrchard$Plan", "treeKind", "[I", true)
  | 6 => ("ShoeOrchard$Plan", "last", "[I", true)
  | 7 => ("ShoeOrchard$Plan", "age", "[I", true)
  | 8 => ("ShoeOrchard$Plan", "treeName", "[J", true)
  | 9 => ("ShoeOrchard$Plan", "personKind", "[I", true)
  | 10 => ("ShoeOrchard$Plan", "feet", "[I", true)
  | 11 => ("ShoeOrchard$Plan", "personName", "[J", true)
  | 12 => ("ShoeOrchard$Plan", "frost", "[I", true)
  | _ => ("ShoeOrchard$Plan", "formula", "LShoeOrchard$Formula;", true)
def cT8 : u_T := fun k => match k with
  | 0 => ("ShoeOrchard$Queue", "length", "I", false)
  | 1 => ("ShoeOrchard$Queue", "mostShod", "I", false)
  | 2 => ("ShoeOrchard$Queue", "bestRow", "[I", true)
  | 3 => ("ShoeOrchard$Queue", "noon", "I", false)
  | 4 => ("ShoeOrchard$Queue", "trees", "I", false)
  | 5 => ("ShoeOrchard$Queue", "persons", "[I", true)
  | 6 => ("ShoeOrchard$Queue", "tried", "[I", true)
  | 7 => ("ShoeOrchard$Queue", "fitting", "[I", true)
  | _ => ("ShoeOrchard$Queue", "row", "[I", true)
def cT9 : u_T := fun k => match k with
  | 0 => ("ShoeOrchard$State", "year", "I", false)
  | 1 => ("ShoeOrchard$State", "last", "[I", true)
  | 2 => ("ShoeOrchard$State", "age", "[I", true)
  | 3 => ("ShoeOrchard$State", "feet", "[I", true)
  | 4 => ("ShoeOrchard$State", "tried", "[I", true)
  | 5 => ("ShoeOrchard$State", "shod", "[I", true)
  | 6 => ("ShoeOrchard$State", "mate", "[I", true)
  | 7 => ("ShoeOrchard$State", "road", "[I", true)
  | _ => ("ShoeOrchard$State", "plan", "LShoeOrchard$Plan;", true)
def cT10 : u_T := fun k => match k with
  | 0 => ("ShoeOrchard$Tape", "length", "I", false)
  | 1 => ("ShoeOrchard$Tape", "kind", "I", false)
  | 2 => ("ShoeOrchard$Tape", "number", "I", false)
  | 3 => ("ShoeOrchard$Tape", "word", "J", false)
  | 4 => ("ShoeOrchard$Tape", "fault", "I", false)
  | 5 => ("ShoeOrchard$Tape", "signs", "[C", true)
  | 6 => ("ShoeOrchard$Tape", "sign", "C", false)
  | 7 => ("ShoeOrchard$Tape", "place", "I", false)
  | _ => ("ShoeOrchard$Tape", "behind", "I", false)
def cT11 : u_T := fun k => match k with
  | 0 => ("ShoeOrchard", "tape", "LShoeOrchard$Tape;", true)
  | 1 => ("ShoeOrchard", "plan", "LShoeOrchard$Plan;", true)
  | 2 => ("ShoeOrchard", "lines", "LShoeOrchard$Lines;", true)
  | 3 => ("ShoeOrchard", "orchardReader", "LShoeOrchard$OrchardReader;", true)
  | 4 => ("ShoeOrchard", "morningReader", "LShoeOrchard$MorningReader;", true)
  | 5 => ("ShoeOrchard", "now", "LShoeOrchard$State;", true)
  | 6 => ("ShoeOrchard", "trial", "LShoeOrchard$State;", true)
  | 7 => ("ShoeOrchard", "past", "LShoeOrchard$Past;", true)
  | 8 => ("ShoeOrchard", "felt", "LShoeOrchard$Felt;", true)
  | 9 => ("ShoeOrchard", "matching", "LShoeOrchard$Matching;", true)
  | 10 => ("ShoeOrchard", "queue", "LShoeOrchard$Queue;", true)
  | 11 => ("ShoeOrchard", "sizes", "[I", true)
  | 12 => ("ShoeOrchard", "fittingLasts", "[J", true)
  | _ => ("ShoeOrchard", "seed", "J", false)
def cT12 : u_T := fun k => match k with
  | 0 => ("ShoeOrchardModel", "thrown", "I", false)
  | 1 => ("ShoeOrchardModel", "tape", "[I", true)
  | 2 => ("ShoeOrchardModel", "taped", "I", false)
  | 3 => ("ShoeOrchardModel", "size", "I", false)
  | 4 => ("ShoeOrchardModel", "sort", "[I", true)
  | 5 => ("ShoeOrchardModel", "place", "[I", true)
  | 6 => ("ShoeOrchardModel", "value", "[J", true)
  | 7 => ("ShoeOrchardModel", "at", "I", false)
  | 8 => ("ShoeOrchardModel", "fault", "I", false)
  | 9 => ("ShoeOrchardModel", "words", "[J", true)
  | 10 => ("ShoeOrchardModel", "orchards", "[I", true)
  | 11 => ("ShoeOrchardModel", "op", "[I", true)
  | 12 => ("ShoeOrchardModel", "arg", "[I", true)
  | 13 => ("ShoeOrchardModel", "codes", "I", false)
  | 14 => ("ShoeOrchardModel", "names", "[J", true)
  | 15 => ("ShoeOrchardModel", "readNames", "[J", true)
  | 16 => ("ShoeOrchardModel", "nameOf", "[I", true)
  | 17 => ("ShoeOrchardModel", "readNameOf", "[I", true)
  | 18 => ("ShoeOrchardModel", "namesMany", "I", false)
  | 19 => ("ShoeOrchardModel", "readMany", "I", false)
  | 20 => ("ShoeOrchardModel", "once", "I", false)
  | 21 => ("ShoeOrchardModel", "lines", "[I", true)
  | 22 => ("ShoeOrchardModel", "facts", "[I", true)
  | 23 => ("ShoeOrchardModel", "pile", "[I", true)
  | 24 => ("ShoeOrchardModel", "state", "[I", true)
  | 25 => ("ShoeOrchardModel", "undos", "I", false)
  | 26 => ("ShoeOrchardModel", "isMarked", "[Z", true)
  | 27 => ("ShoeOrchardModel", "dealt", "[I", true)
  | 28 => ("ShoeOrchardModel", "bestDealt", "[I", true)
  | 29 => ("ShoeOrchardModel", "mostDealt", "I", false)
  | 30 => ("ShoeOrchardModel", "gone", "[I", true)
  | 31 => ("ShoeOrchardModel", "bestGone", "[I", true)
  | 32 => ("ShoeOrchardModel", "goneMany", "I", false)
  | 33 => ("ShoeOrchardModel", "mostShod", "I", false)
  | _ => ("ShoeOrchardModel", "g", "J", false)
def cT : Nat → u_T := fun c => match c with
  | 0 => cT0
  | 1 => cT1
  | 2 => cT2
  | 3 => cT3
  | 4 => cT4
  | 5 => cT5
  | 6 => cT6
  | 7 => cT7
  | 8 => cT8
  | 9 => cT9
  | 10 => cT10
  | 11 => cT11
  | _ => cT12
abbrev cL : List vw_C := [("ShoeOrchard$Felt", cT0, 3), ("ShoeOrchard$Formula", cT1, 3), ("ShoeOrchard$Lines", cT2, 4), ("ShoeOrchard$Matching", cT3, 7), ("ShoeOrchard$MorningReader", cT4, 1), ("ShoeOrchard$OrchardReader", cT5, 2), ("ShoeOrchard$Past", cT6, 5), ("ShoeOrchard$Plan", cT7, 14), ("ShoeOrchard$Queue", cT8, 9), ("ShoeOrchard$State", cT9, 9), ("ShoeOrchard$Tape", cT10, 9), ("ShoeOrchard", cT11, 14), ("ShoeOrchardModel", cT12, 35)]
def cY0 : Nat → FieldType := fun k => match k with
  | 0 => .int
  | 1 => (.array .int)
  | _ => (.array .boolean)
def cY1 : Nat → FieldType := fun k => match k with
  | 0 => (.array .int)
  | 1 => (.array .int)
  | _ => .int
def cY2 : Nat → FieldType := fun k => match k with
  | 0 => .int
  | 1 => (.array .int)
  | 2 => (.array .int)
  | _ => (.array .int)
def cY3 : Nat → FieldType := fun k => match k with
  | 0 => .int
  | 1 => (.array .int)
  | 2 => (.array .int)
  | 3 => (.array .int)
  | 4 => .int
  | 5 => .int
  | _ => (.array .int)
def cY4 : Nat → FieldType := fun k => match k with
  | _ => (.object "ShoeOrchard$Lines")
def cY5 : Nat → FieldType := fun k => match k with
  | 0 => (.object "ShoeOrchard$Plan")
  | _ => .int
def cY6 : Nat → FieldType := fun k => match k with
  | 0 => .int
  | 1 => (.array (.object "ShoeOrchard$State"))
  | 2 => (.array (.object "ShoeOrchard$State"))
  | 3 => (.array (.object "ShoeOrchard$Felt"))
  | _ => (.array .boolean)
def cY7 : Nat → FieldType := fun k => match k with
  | 0 => .int
  | 1 => .int
  | 2 => .int
  | 3 => .int
  | 4 => .int
  | 5 => (.array .int)
  | 6 => (.array .int)
  | 7 => (.array .int)
  | 8 => (.array .long)
  | 9 => (.array .int)
  | 10 => (.array .int)
  | 11 => (.array .long)
  | 12 => (.array .int)
  | _ => (.object "ShoeOrchard$Formula")
def cY8 : Nat → FieldType := fun k => match k with
  | 0 => .int
  | 1 => .int
  | 2 => (.array .int)
  | 3 => .int
  | 4 => .int
  | 5 => (.array .int)
  | 6 => (.array .int)
  | 7 => (.array .int)
  | _ => (.array .int)
def cY9 : Nat → FieldType := fun k => match k with
  | 0 => .int
  | 1 => (.array .int)
  | 2 => (.array .int)
  | 3 => (.array .int)
  | 4 => (.array .int)
  | 5 => (.array .int)
  | 6 => (.array .int)
  | 7 => (.array .int)
  | _ => (.object "ShoeOrchard$Plan")
def cY10 : Nat → FieldType := fun k => match k with
  | 0 => .int
  | 1 => .int
  | 2 => .int
  | 3 => .long
  | 4 => .int
  | 5 => (.array .char)
  | 6 => .char
  | 7 => .int
  | _ => .int
def cY11 : Nat → FieldType := fun k => match k with
  | 0 => (.object "ShoeOrchard$Tape")
  | 1 => (.object "ShoeOrchard$Plan")
  | 2 => (.object "ShoeOrchard$Lines")
  | 3 => (.object "ShoeOrchard$OrchardReader")
  | 4 => (.object "ShoeOrchard$MorningReader")
  | 5 => (.object "ShoeOrchard$State")
  | 6 => (.object "ShoeOrchard$State")
  | 7 => (.object "ShoeOrchard$Past")
  | 8 => (.object "ShoeOrchard$Felt")
  | 9 => (.object "ShoeOrchard$Matching")
  | 10 => (.object "ShoeOrchard$Queue")
  | 11 => (.array .int)
  | 12 => (.array .long)
  | _ => .long
def cY12 : Nat → FieldType := fun k => match k with
  | 0 => .int
  | 1 => (.array .int)
  | 2 => .int
  | 3 => .int
  | 4 => (.array .int)
  | 5 => (.array .int)
  | 6 => (.array .long)
  | 7 => .int
  | 8 => .int
  | 9 => (.array .long)
  | 10 => (.array .int)
  | 11 => (.array .int)
  | 12 => (.array .int)
  | 13 => .int
  | 14 => (.array .long)
  | 15 => (.array .long)
  | 16 => (.array .int)
  | 17 => (.array .int)
  | 18 => .int
  | 19 => .int
  | 20 => .int
  | 21 => (.array .int)
  | 22 => (.array .int)
  | 23 => (.array .int)
  | 24 => (.array .int)
  | 25 => .int
  | 26 => (.array .boolean)
  | 27 => (.array .int)
  | 28 => (.array .int)
  | 29 => .int
  | 30 => (.array .int)
  | 31 => (.array .int)
  | 32 => .int
  | 33 => .int
  | _ => .long
def cY : Nat → Nat → FieldType := fun c => match c with
  | 0 => cY0
  | 1 => cY1
  | 2 => cY2
  | 3 => cY3
  | 4 => cY4
  | 5 => cY5
  | 6 => cY6
  | 7 => cY7
  | 8 => cY8
  | 9 => cY9
  | 10 => cY10
  | 11 => cY11
  | _ => cY12
/-- the methods: name, bytes, locals, answer -/
def mtL : List (MethodName × ByteArray × Nat × Option FieldType) := [
  (⟨"ShoeOrchard$Felt", "<init>", "()V"⟩, prog_2_method_1_code, 1, none),
  (⟨"ShoeOrchard$Felt", "clear", "()V"⟩, prog_2_method_2_code, 1, none),
  (⟨"ShoeOrchard$Felt", "add", "(IZ)Z"⟩, prog_2_method_4_code, 3, (some .boolean)),
  (⟨"ShoeOrchard$Felt", "allows", "(I[II)Z"⟩, prog_2_method_5_code, 7, (some .boolean)),
  (⟨"ShoeOrchard$Felt", "copy", "(LShoeOrchard$Felt;)V"⟩, prog_2_method_3_code, 3, none),
  (⟨"ShoeOrchard$Formula", "<init>", "()V"⟩, prog_3_method_1_code, 1, none),
  (⟨"ShoeOrchard$Formula", "clear", "()V"⟩, prog_3_method_2_code, 1, none),
  (⟨"ShoeOrchard$Formula", "add", "(I)V"⟩, prog_3_method_3_code, 2, none),
  (⟨"ShoeOrchard$Formula", "copy", "(LShoeOrchard$Formula;)V"⟩, prog_3_method_4_code, 2, none),
  (⟨"ShoeOrchard$Formula", "value", "(IIII)I"⟩, prog_3_method_5_code, 8, (some .int)),
  (⟨"ShoeOrchard$Formula", "joined", "(III)I"⟩, prog_3_method_7_code, 3, (some .int)),
  (⟨"ShoeOrchard$Formula", "fact", "(IIIII)I"⟩, prog_3_method_6_code, 5, (some .int)),
  (⟨"ShoeOrchard$Lines", "<init>", "()V"⟩, prog_4_method_1_code, 1, none),
  (⟨"ShoeOrchard$Lines", "clear", "()V"⟩, prog_4_method_2_code, 1, none),
  (⟨"ShoeOrchard$Lines", "add", "(III)V"⟩, prog_4_method_4_code, 4, none),
  (⟨"ShoeOrchard$Lines", "copy", "(LShoeOrchard$Lines;)V"⟩, prog_4_method_3_code, 2, none),
  (⟨"ShoeOrchard$Lines", "carryOut", "(ILShoeOrchard$State;)I"⟩, prog_4_method_5_code, 5, (some .int)),
  (⟨"ShoeOrchard$Matching", "<init>", "()V"⟩, prog_5_method_1_code, 1, none),
  (⟨"ShoeOrchard$Matching", "begin", "(II)V"⟩, prog_5_method_2_code, 3, none),
  (⟨"ShoeOrchard$Matching", "solve", "()V"⟩, prog_5_method_3_code, 3, none),
  (⟨"ShoeOrchard$Matching", "mostFrom", "(II)I"⟩, prog_5_method_4_code, 5, (some .int)),
  (⟨"ShoeOrchard$Matching", "mostBy", "(III)I"⟩, prog_5_method_6_code, 5, (some .int)),
  (⟨"ShoeOrchard$Matching", "firstOfMost", "(II)I"⟩, prog_5_method_5_code, 4, (some .int)),
  (⟨"ShoeOrchard$MorningReader", "<init>", "()V"⟩, prog_6_method_1_code, 1, none),
  (⟨"ShoeOrchard$MorningReader", "read", "(LShoeOrchard$Tape;LShoeOrchard$Plan;)I"⟩, prog_6_method_2_code, 4, (some .int)),
  (⟨"ShoeOrchard$MorningReader", "readLine", "(LShoeOrchard$Tape;LShoeOrchard$Plan;)Z"⟩, prog_6_method_3_code, 6, (some .boolean)),
  (⟨"ShoeOrchard$MorningReader", "readNamed", "(LShoeOrchard$Tape;LShoeOrchard$Plan;ZI)I"⟩, prog_6_method_4_code, 6, (some .int)),
  (⟨"ShoeOrchard$OrchardReader", "<init>", "()V"⟩, prog_7_method_1_code, 1, none),
  (⟨"ShoeOrchard$OrchardReader", "read", "(LShoeOrchard$Tape;)I"⟩, prog_7_method_2_code, 3, (some .int)),
  (⟨"ShoeOrchard$OrchardReader", "readLine", "(LShoeOrchard$Tape;)Z"⟩, prog_7_method_3_code, 3, (some .boolean)),
  (⟨"ShoeOrchard$OrchardReader", "readTree", "(LShoeOrchard$Tape;)Z"⟩, prog_7_method_5_code, 3, (some .boolean)),
  (⟨"ShoeOrchard$OrchardReader", "isNewName", "(LShoeOrchard$Tape;)Z"⟩, prog_7_method_7_code, 2, (some .boolean)),
  (⟨"ShoeOrchard$OrchardReader", "readPerson", "(LShoeOrchard$Tape;)Z"⟩, prog_7_method_6_code, 3, (some .boolean)),
  (⟨"ShoeOrchard$OrchardReader", "readOnce", "(LShoeOrchard$Tape;I)Z"⟩, prog_7_method_4_code, 3, (some .boolean)),
  (⟨"ShoeOrchard$OrchardReader", "readPinch", "(LShoeOrchard$Tape;)Z"⟩, prog_7_method_8_code, 2, (some .boolean)),
  (⟨"ShoeOrchard$OrchardReader", "readNoon", "(LShoeOrchard$Tape;)Z"⟩, prog_7_method_9_code, 2, (some .boolean)),
  (⟨"ShoeOrchard$OrchardReader", "readFrosts", "(LShoeOrchard$Tape;)Z"⟩, prog_7_method_10_code, 4, (some .boolean)),
  (⟨"ShoeOrchard$OrchardReader", "readE", "(LShoeOrchard$Tape;I)Z"⟩, prog_7_method_11_code, 5, (some .boolean)),
  (⟨"ShoeOrchard$OrchardReader", "readTest", "(LShoeOrchard$Tape;I)Z"⟩, prog_7_method_12_code, 4, (some .boolean)),
  (⟨"ShoeOrchard$OrchardReader", "readSum", "(LShoeOrchard$Tape;I)Z"⟩, prog_7_method_13_code, 5, (some .boolean)),
  (⟨"ShoeOrchard$OrchardReader", "readProduct", "(LShoeOrchard$Tape;I)Z"⟩, prog_7_method_14_code, 4, (some .boolean)),
  (⟨"ShoeOrchard$OrchardReader", "readPart", "(LShoeOrchard$Tape;I)Z"⟩, prog_7_method_15_code, 8, (some .boolean)),
  (⟨"ShoeOrchard$Past", "<init>", "(LShoeOrchard$Plan;)V"⟩, prog_8_method_1_code, 3, none),
  (⟨"ShoeOrchard$Past", "forgetAll", "()V"⟩, prog_8_method_2_code, 2, none),
  (⟨"ShoeOrchard$Past", "keep", "(LShoeOrchard$State;)V"⟩, prog_8_method_3_code, 2, none),
  (⟨"ShoeOrchard$Past", "dropOldest", "()V"⟩, prog_8_method_4_code, 3, none),
  (⟨"ShoeOrchard$Past", "bringBack", "(LShoeOrchard$State;)Z"⟩, prog_8_method_5_code, 2, (some .boolean)),
  (⟨"ShoeOrchard$Past", "goBack", "(ILShoeOrchard$State;LShoeOrchard$Felt;)Z"⟩, prog_8_method_7_code, 4, (some .boolean)),
  (⟨"ShoeOrchard$Past", "lay", "(ILShoeOrchard$State;LShoeOrchard$Felt;)V"⟩, prog_8_method_6_code, 4, none),
  (⟨"ShoeOrchard$Plan", "<init>", "()V"⟩, prog_9_method_1_code, 1, none),
  (⟨"ShoeOrchard$Plan", "clear", "()V"⟩, prog_9_method_2_code, 1, none),
  (⟨"ShoeOrchard$Plan", "treeNamed", "(J)I"⟩, prog_9_method_6_code, 4, (some .int)),
  (⟨"ShoeOrchard$Plan", "personNamed", "(J)I"⟩, prog_9_method_7_code, 4, (some .int)),
  (⟨"ShoeOrchard$Plan", "copy", "(LShoeOrchard$Plan;)V"⟩, prog_9_method_3_code, 2, none),
  (⟨"ShoeOrchard$Plan", "isTree", "(I)Z"⟩, prog_9_method_4_code, 2, (some .boolean)),
  (⟨"ShoeOrchard$Plan", "frostOf", "(I)I"⟩, prog_9_method_8_code, 2, (some .int)),
  (⟨"ShoeOrchard$Plan", "standsFrost", "(II)Z"⟩, prog_9_method_9_code, 3, (some .boolean)),
  (⟨"ShoeOrchard$Plan", "sizeBy", "(III)I"⟩, prog_9_method_11_code, 5, (some .int)),
  (⟨"ShoeOrchard$Plan", "isPerson", "(I)Z"⟩, prog_9_method_5_code, 2, (some .boolean)),
  (⟨"ShoeOrchard$Plan", "pinched", "(III)I"⟩, prog_9_method_12_code, 7, (some .int)),
  (⟨"ShoeOrchard$Plan", "roadBy", "(I)I"⟩, prog_9_method_10_code, 2, (some .int)),
  (⟨"ShoeOrchard$Queue", "<init>", "()V"⟩, prog_10_method_1_code, 1, none),
  (⟨"ShoeOrchard$Queue", "begin", "(II)V"⟩, prog_10_method_2_code, 3, none),
  (⟨"ShoeOrchard$Queue", "add", "(III)V"⟩, prog_10_method_3_code, 4, none),
  (⟨"ShoeOrchard$Queue", "solve", "(I)V"⟩, prog_10_method_4_code, 2, none),
  (⟨"ShoeOrchard$Queue", "goOn", "(IIII)V"⟩, prog_10_method_5_code, 8, none),
  (⟨"ShoeOrchard$Queue", "treeFor", "(II)I"⟩, prog_10_method_6_code, 5, (some .int)),
  (⟨"ShoeOrchard$State", "<init>", "(LShoeOrchard$Plan;)V"⟩, prog_11_method_1_code, 2, none),
  (⟨"ShoeOrchard$State", "begin", "()V"⟩, prog_11_method_2_code, 1, none),
  (⟨"ShoeOrchard$State", "beginMorning", "()V"⟩, prog_11_method_3_code, 1, none),
  (⟨"ShoeOrchard$State", "sizeOf", "(I)I"⟩, prog_11_method_7_code, 2, (some .int)),
  (⟨"ShoeOrchard$State", "bears", "(I)Z"⟩, prog_11_method_5_code, 2, (some .boolean)),
  (⟨"ShoeOrchard$State", "holders", "(I)I"⟩, prog_11_method_9_code, 4, (some .int)),
  (⟨"ShoeOrchard$State", "suits", "(II)Z"⟩, prog_11_method_8_code, 4, (some .boolean)),
  (⟨"ShoeOrchard$State", "canTry", "(II)Z"⟩, prog_11_method_12_code, 3, (some .boolean)),
  (⟨"ShoeOrchard$State", "copy", "(LShoeOrchard$State;)V"⟩, prog_11_method_4_code, 2, none),
  (⟨"ShoeOrchard$State", "attempt", "(II)Z"⟩, prog_11_method_13_code, 3, (some .boolean)),
  (⟨"ShoeOrchard$State", "putOn", "(II)V"⟩, prog_11_method_14_code, 3, none),
  (⟨"ShoeOrchard$State", "canJoin", "(II)Z"⟩, prog_11_method_15_code, 4, (some .boolean)),
  (⟨"ShoeOrchard$State", "join", "(II)V"⟩, prog_11_method_16_code, 3, none),
  (⟨"ShoeOrchard$State", "blend", "(II)V"⟩, prog_11_method_17_code, 3, none),
  (⟨"ShoeOrchard$State", "trim", "(I)V"⟩, prog_11_method_18_code, 2, none),
  (⟨"ShoeOrchard$State", "passYear", "()V"⟩, prog_11_method_19_code, 1, none),
  (⟨"ShoeOrchard$State", "passYearOf", "(I)V"⟩, prog_11_method_20_code, 3, none),
  (⟨"ShoeOrchard$State", "allRoad", "()I"⟩, prog_11_method_11_code, 3, (some .int)),
  (⟨"ShoeOrchard$State", "bearingTrees", "()I"⟩, prog_11_method_6_code, 3, (some .int)),
  (⟨"ShoeOrchard$State", "shodPersons", "()I"⟩, prog_11_method_10_code, 3, (some .int)),
  (⟨"ShoeOrchard$Tape", "<init>", "()V"⟩, prog_12_method_1_code, 1, none),
  (⟨"ShoeOrchard$Tape", "add", "(I)V"⟩, prog_12_method_2_code, 3, none),
  (⟨"ShoeOrchard$Tape", "beginReading", "()V"⟩, prog_12_method_4_code, 1, none),
  (⟨"ShoeOrchard$Tape", "next", "()V"⟩, prog_12_method_5_code, 1, none),
  (⟨"ShoeOrchard$Tape", "isBlank", "(C)Z"⟩, prog_12_method_8_code, 1, (some .boolean)),
  (⟨"ShoeOrchard$Tape", "isLetter", "(C)Z"⟩, prog_12_method_9_code, 1, (some .boolean)),
  (⟨"ShoeOrchard$Tape", "readWord", "()V"⟩, prog_12_method_6_code, 1, none),
  (⟨"ShoeOrchard$Tape", "isDigit", "(C)Z"⟩, prog_12_method_10_code, 1, (some .boolean)),
  (⟨"ShoeOrchard$Tape", "readNumber", "()V"⟩, prog_12_method_7_code, 1, none),
  (⟨"ShoeOrchard$Tape", "among", "(Ljava/lang/String;)I"⟩, prog_12_method_14_code, 5, (some .int)),
  (⟨"ShoeOrchard$Tape", "isPartOf", "(Ljava/lang/String;II)Z"⟩, prog_12_method_15_code, 5, (some .boolean)),
  (⟨"ShoeOrchard$Tape", "wrong", "(I)Z"⟩, prog_12_method_16_code, 2, (some .boolean)),
  (⟨"ShoeOrchard$Tape", "isName", "()Z"⟩, prog_12_method_13_code, 1, (some .boolean)),
  (⟨"ShoeOrchard$Tape", "takeAmong", "(Ljava/lang/String;)I"⟩, prog_12_method_19_code, 3, (some .int)),
  (⟨"ShoeOrchard$Tape", "takeWord", "(Ljava/lang/String;)Z"⟩, prog_12_method_18_code, 2, (some .boolean)),
  (⟨"ShoeOrchard$Tape", "isWord", "(Ljava/lang/String;)Z"⟩, prog_12_method_12_code, 2, (some .boolean)),
  (⟨"ShoeOrchard$Tape", "takeNumber", "(II)I"⟩, prog_12_method_20_code, 4, (some .int)),
  (⟨"ShoeOrchard$Tape", "isSign", "(C)Z"⟩, prog_12_method_11_code, 2, (some .boolean)),
  (⟨"ShoeOrchard$Tape", "takeSign", "(C)Z"⟩, prog_12_method_17_code, 2, (some .boolean)),
  (⟨"ShoeOrchard$Tape", "clear", "()V"⟩, prog_12_method_3_code, 1, none),
  (⟨"ShoeOrchard", "<init>", "()V"⟩, prog_1_method_1_code, 1, none),
  (⟨"ShoeOrchard", "feed", "(JJJ)I"⟩, prog_1_method_2_code, 7, (some .int)),
  (⟨"ShoeOrchard", "feedBytes", "(J)V"⟩, prog_1_method_37_code, 4, none),
  (⟨"ShoeOrchard", "orchard", "()I"⟩, prog_1_method_3_code, 2, (some .int)),
  (⟨"ShoeOrchard", "morning", "()I"⟩, prog_1_method_4_code, 2, (some .int)),
  (⟨"ShoeOrchard", "tree", "(II)I"⟩, prog_1_method_5_code, 3, (some .int)),
  (⟨"ShoeOrchard", "person", "(II)I"⟩, prog_1_method_6_code, 3, (some .int)),
  (⟨"ShoeOrchard", "fits", "(II)Z"⟩, prog_1_method_7_code, 3, (some .boolean)),
  (⟨"ShoeOrchard", "tryOn", "(II)I"⟩, prog_1_method_8_code, 3, (some .int)),
  (⟨"ShoeOrchard", "share", "(II)Z"⟩, prog_1_method_9_code, 3, (some .boolean)),
  (⟨"ShoeOrchard", "graft", "(II)I"⟩, prog_1_method_10_code, 3, (some .int)),
  (⟨"ShoeOrchard", "prune", "(I)I"⟩, prog_1_method_11_code, 2, (some .int)),
  (⟨"ShoeOrchard", "year", "()I"⟩, prog_1_method_12_code, 1, (some .int)),
  (⟨"ShoeOrchard", "undo", "()Z"⟩, prog_1_method_13_code, 1, (some .boolean)),
  (⟨"ShoeOrchard", "judged", "(I)I"⟩, prog_1_method_14_code, 6, (some .int)),
  (⟨"ShoeOrchard", "fitted", "(I)I"⟩, prog_1_method_15_code, 2, (some .int)),
  (⟨"ShoeOrchard", "measure", "(LShoeOrchard$State;)V"⟩, prog_1_method_38_code, 3, none),
  (⟨"ShoeOrchard", "fittingTrees", "(LShoeOrchard$State;I)I"⟩, prog_1_method_39_code, 5, (some .int)),
  (⟨"ShoeOrchard", "wearers", "(I)I"⟩, prog_1_method_16_code, 2, (some .int)),
  (⟨"ShoeOrchard", "fittingPersons", "(I)I"⟩, prog_1_method_40_code, 4, (some .int)),
  (⟨"ShoeOrchard", "shoes", "(I)I"⟩, prog_1_method_17_code, 2, (some .int)),
  (⟨"ShoeOrchard", "matched", "(IZ)I"⟩, prog_1_method_42_code, 6, (some .int)),
  (⟨"ShoeOrchard", "freeTrees", "()I"⟩, prog_1_method_41_code, 3, (some .int)),
  (⟨"ShoeOrchard", "roads", "(I)I"⟩, prog_1_method_18_code, 2, (some .int)),
  (⟨"ShoeOrchard", "order", "(I)I"⟩, prog_1_method_19_code, 3, (some .int)),
  (⟨"ShoeOrchard", "mends", "(I)I"⟩, prog_1_method_20_code, 3, (some .int)),
  (⟨"ShoeOrchard", "findFittingLasts", "(I)V"⟩, prog_1_method_43_code, 3, none),
  (⟨"ShoeOrchard", "lastsThatFit", "(II)J"⟩, prog_1_method_44_code, 7, (some .long)),
  (⟨"ShoeOrchard", "mendable", "(I)Z"⟩, prog_1_method_45_code, 6, (some .boolean)),
  (⟨"ShoeOrchard", "someLastFits", "()Z"⟩, prog_1_method_46_code, 2, (some .boolean)),
  (⟨"ShoeOrchard", "when", "(I)I"⟩, prog_1_method_21_code, 3, (some .int)),
  (⟨"ShoeOrchard", "later", "(II)I"⟩, prog_1_method_22_code, 4, (some .int)),
  (⟨"ShoeOrchard", "feel", "(IZ)Z"⟩, prog_1_method_23_code, 3, (some .boolean)),
  (⟨"ShoeOrchard", "feet", "(I)I"⟩, prog_1_method_24_code, 6, (some .int)),
  (⟨"ShoeOrchard", "ask", "()I"⟩, prog_1_method_25_code, 7, (some .int)),
  (⟨"ShoeOrchard", "allowedFeetFitting", "(I)I"⟩, prog_1_method_47_code, 4, (some .int)),
  (⟨"ShoeOrchard", "pairs", "()I"⟩, prog_1_method_26_code, 5, (some .int)),
  (⟨"ShoeOrchard", "idle", "()I"⟩, prog_1_method_27_code, 3, (some .int)),
  (⟨"ShoeOrchard", "sole", "()I"⟩, prog_1_method_28_code, 3, (some .int)),
  (⟨"ShoeOrchard", "twins", "()I"⟩, prog_1_method_29_code, 4, (some .int)),
  (⟨"ShoeOrchard", "best", "()I"⟩, prog_1_method_30_code, 5, (some .int)),
  (⟨"ShoeOrchard", "lack", "(I)I"⟩, prog_1_method_31_code, 5, (some .int)),
  (⟨"ShoeOrchard", "chance", "(III)I"⟩, prog_1_method_32_code, 8, (some .int)),
  (⟨"ShoeOrchard", "likelihood", "(III)I"⟩, prog_1_method_48_code, 6, (some .int)),
  (⟨"ShoeOrchard", "ages", "(III)I"⟩, prog_1_method_34_code, 7, (some .int)),
  (⟨"ShoeOrchard", "stepOfAges", "()Z"⟩, prog_1_method_51_code, 7, (some .boolean)),
  (⟨"ShoeOrchard", "draw", "(I)I"⟩, prog_1_method_52_code, 2, (some .int)),
  (⟨"ShoeOrchard", "mark", "(IZ)Z"⟩, prog_1_method_35_code, 3, (some .boolean)),
  (⟨"ShoeOrchard", "count", "(I)I"⟩, prog_1_method_36_code, 2, (some .int)),
  (⟨"ShoeOrchard", "rests", "(IIII)I"⟩, prog_1_method_33_code, 11, (some .int)),
  (⟨"ShoeOrchard", "isPay", "(I)Z"⟩, prog_1_method_49_code, 1, (some .boolean)),
  (⟨"ShoeOrchard", "pay", "(IIIII)I"⟩, prog_1_method_50_code, 5, (some .int)),
  (⟨"ShoeOrchardModel", "thrown", "()I"⟩, prog_14_method_1_code, 1, (some .int)),
  (⟨"ShoeOrchardModel", "feed", "(JJJ)I"⟩, prog_14_method_2_code, 7, (some .int)),
  (⟨"ShoeOrchardModel", "lay", "(J)V"⟩, prog_14_method_3_code, 5, none),
  (⟨"ShoeOrchardModel", "<init>", "()V"⟩, prog_14_method_4_code, 1, none),
  (⟨"ShoeOrchardModel", "standsAsAlways", "(I)V"⟩, prog_14_method_18_code, 3, none),
  (⟨"ShoeOrchardModel", "begins", "()V"⟩, prog_14_method_42_code, 2, none),
  (⟨"ShoeOrchardModel", "starts", "(I)V"⟩, prog_14_method_41_code, 3, none),
  (⟨"ShoeOrchardModel", "trees", "()I"⟩, prog_14_method_44_code, 1, (some .int)),
  (⟨"ShoeOrchardModel", "treeOf", "(II)I"⟩, prog_14_method_46_code, 3, (some .int)),
  (⟨"ShoeOrchardModel", "persons", "()I"⟩, prog_14_method_45_code, 1, (some .int)),
  (⟨"ShoeOrchardModel", "personOf", "(II)I"⟩, prog_14_method_47_code, 3, (some .int)),
  (⟨"ShoeOrchardModel", "orchard", "()I"⟩, prog_14_method_26_code, 2, (some .int)),
  (⟨"ShoeOrchardModel", "cutAll", "()V"⟩, prog_14_method_9_code, 7, none),
  (⟨"ShoeOrchardModel", "isLetter", "(I)Z"⟩, prog_14_method_5_code, 1, (some .boolean)),
  (⟨"ShoeOrchardModel", "rank", "(I)I"⟩, prog_14_method_7_code, 1, (some .int)),
  (⟨"ShoeOrchardModel", "isDigit", "(I)Z"⟩, prog_14_method_6_code, 1, (some .boolean)),
  (⟨"ShoeOrchardModel", "isSignOf", "(I)Z"⟩, prog_14_method_8_code, 1, (some .boolean)),
  (⟨"ShoeOrchardModel", "readLine", "()V"⟩, prog_14_method_27_code, 5, none),
  (⟨"ShoeOrchardModel", "isWord", "(I)Z"⟩, prog_14_method_12_code, 2, (some .boolean)),
  (⟨"ShoeOrchardModel", "readName", "(III)V"⟩, prog_14_method_28_code, 5, none),
  (⟨"ShoeOrchardModel", "wrong", "(I)V"⟩, prog_14_method_10_code, 2, none),
  (⟨"ShoeOrchardModel", "isName", "()Z"⟩, prog_14_method_23_code, 1, (some .boolean)),
  (⟨"ShoeOrchardModel", "wordHere", "(II)I"⟩, prog_14_method_21_code, 5, (some .int)),
  (⟨"ShoeOrchardModel", "nameAt", "(Z)I"⟩, prog_14_method_24_code, 3, (some .int)),
  (⟨"ShoeOrchardModel", "takeOne", "(II)I"⟩, prog_14_method_22_code, 4, (some .int)),
  (⟨"ShoeOrchardModel", "takeAfter", "(III)I"⟩, prog_14_method_20_code, 4, (some .int)),
  (⟨"ShoeOrchardModel", "takeWord", "(I)V"⟩, prog_14_method_16_code, 2, none),
  (⟨"ShoeOrchardModel", "hasWord", "(I)Z"⟩, prog_14_method_15_code, 3, (some .boolean)),
  (⟨"ShoeOrchardModel", "takeNumber", "(II)I"⟩, prog_14_method_19_code, 3, (some .int)),
  (⟨"ShoeOrchardModel", "readOnce", "()V"⟩, prog_14_method_29_code, 2, none),
  (⟨"ShoeOrchardModel", "readFrost", "()V"⟩, prog_14_method_30_code, 3, none),
  (⟨"ShoeOrchardModel", "whole", "(I)V"⟩, prog_14_method_33_code, 3, none),
  (⟨"ShoeOrchardModel", "test", "(I)V"⟩, prog_14_method_34_code, 3, none),
  (⟨"ShoeOrchardModel", "sums", "(I)V"⟩, prog_14_method_35_code, 3, none),
  (⟨"ShoeOrchardModel", "products", "(I)V"⟩, prog_14_method_36_code, 2, none),
  (⟨"ShoeOrchardModel", "takePart", "(I)V"⟩, prog_14_method_37_code, 4, none),
  (⟨"ShoeOrchardModel", "isSign", "(I)Z"⟩, prog_14_method_11_code, 2, (some .boolean)),
  (⟨"ShoeOrchardModel", "emit", "(II)V"⟩, prog_14_method_32_code, 3, none),
  (⟨"ShoeOrchardModel", "hasSign", "(I)Z"⟩, prog_14_method_14_code, 3, (some .boolean)),
  (⟨"ShoeOrchardModel", "takeSign", "(I)V"⟩, prog_14_method_13_code, 2, none),
  (⟨"ShoeOrchardModel", "morning", "()I"⟩, prog_14_method_31_code, 4, (some .int)),
  (⟨"ShoeOrchardModel", "takeTold", "(II)I"⟩, prog_14_method_25_code, 4, (some .int)),
  (⟨"ShoeOrchardModel", "within", "(III)Z"⟩, prog_14_method_17_code, 3, (some .boolean)),
  (⟨"ShoeOrchardModel", "tree", "(II)I"⟩, prog_14_method_69_code, 3, (some .int)),
  (⟨"ShoeOrchardModel", "isTree", "(I)Z"⟩, prog_14_method_48_code, 2, (some .boolean)),
  (⟨"ShoeOrchardModel", "doesBear", "(II)Z"⟩, prog_14_method_52_code, 3, (some .boolean)),
  (⟨"ShoeOrchardModel", "frostOf", "(I)I"⟩, prog_14_method_50_code, 2, (some .int)),
  (⟨"ShoeOrchardModel", "stands", "(II)Z"⟩, prog_14_method_51_code, 4, (some .boolean)),
  (⟨"ShoeOrchardModel", "sizeOf", "(II)I"⟩, prog_14_method_53_code, 4, (some .int)),
  (⟨"ShoeOrchardModel", "worthAt", "(I)I"⟩, prog_14_method_38_code, 5, (some .int)),
  (⟨"ShoeOrchardModel", "both", "(III)I"⟩, prog_14_method_39_code, 3, (some .int)),
  (⟨"ShoeOrchardModel", "haveOf", "(II)I"⟩, prog_14_method_57_code, 5, (some .int)),
  (⟨"ShoeOrchardModel", "person", "(II)I"⟩, prog_14_method_70_code, 3, (some .int)),
  (⟨"ShoeOrchardModel", "isPerson", "(I)Z"⟩, prog_14_method_49_code, 2, (some .boolean)),
  (⟨"ShoeOrchardModel", "fits", "(II)Z"⟩, prog_14_method_71_code, 3, (some .boolean)),
  (⟨"ShoeOrchardModel", "doesFit", "(III)Z"⟩, prog_14_method_56_code, 4, (some .boolean)),
  (⟨"ShoeOrchardModel", "pinchBy", "(III)I"⟩, prog_14_method_55_code, 8, (some .int)),
  (⟨"ShoeOrchardModel", "apart", "(II)I"⟩, prog_14_method_54_code, 2, (some .int)),
  (⟨"ShoeOrchardModel", "tryOn", "(II)I"⟩, prog_14_method_72_code, 3, (some .int)),
  (⟨"ShoeOrchardModel", "mayTry", "(III)Z"⟩, prog_14_method_59_code, 4, (some .boolean)),
  (⟨"ShoeOrchardModel", "keeps", "()V"⟩, prog_14_method_43_code, 2, none),
  (⟨"ShoeOrchardModel", "copies", "(III)V"⟩, prog_14_method_40_code, 5, none),
  (⟨"ShoeOrchardModel", "tries", "(III)Z"⟩, prog_14_method_60_code, 5, (some .boolean)),
  (⟨"ShoeOrchardModel", "isShodBy", "(III)V"⟩, prog_14_method_61_code, 4, none),
  (⟨"ShoeOrchardModel", "roadBy", "(I)I"⟩, prog_14_method_58_code, 3, (some .int)),
  (⟨"ShoeOrchardModel", "share", "(II)Z"⟩, prog_14_method_73_code, 3, (some .boolean)),
  (⟨"ShoeOrchardModel", "mayShare", "(III)Z"⟩, prog_14_method_62_code, 5, (some .boolean)),
  (⟨"ShoeOrchardModel", "shares", "(III)V"⟩, prog_14_method_63_code, 4, none),
  (⟨"ShoeOrchardModel", "graft", "(II)I"⟩, prog_14_method_74_code, 3, (some .int)),
  (⟨"ShoeOrchardModel", "grafts", "(III)V"⟩, prog_14_method_64_code, 4, none),
  (⟨"ShoeOrchardModel", "prune", "(I)I"⟩, prog_14_method_75_code, 2, (some .int)),
  (⟨"ShoeOrchardModel", "prunes", "(II)V"⟩, prog_14_method_65_code, 3, none),
  (⟨"ShoeOrchardModel", "year", "()I"⟩, prog_14_method_76_code, 1, (some .int)),
  (⟨"ShoeOrchardModel", "passes", "(II)V"⟩, prog_14_method_66_code, 5, none),
  (⟨"ShoeOrchardModel", "undo", "()Z"⟩, prog_14_method_77_code, 1, (some .boolean)),
  (⟨"ShoeOrchardModel", "judged", "(I)I"⟩, prog_14_method_78_code, 9, (some .int)),
  (⟨"ShoeOrchardModel", "roadOfAll", "(I)I"⟩, prog_14_method_67_code, 4, (some .int)),
  (⟨"ShoeOrchardModel", "fitted", "(I)I"⟩, prog_14_method_80_code, 2, (some .int)),
  (⟨"ShoeOrchardModel", "fittedOf", "(II)I"⟩, prog_14_method_79_code, 5, (some .int)),
  (⟨"ShoeOrchardModel", "wearers", "(I)I"⟩, prog_14_method_82_code, 2, (some .int)),
  (⟨"ShoeOrchardModel", "wearersOf", "(I)I"⟩, prog_14_method_81_code, 4, (some .int)),
  (⟨"ShoeOrchardModel", "shoes", "(I)I"⟩, prog_14_method_85_code, 2, (some .int)),
  (⟨"ShoeOrchardModel", "dealtTo", "(IZ)I"⟩, prog_14_method_84_code, 3, (some .int)),
  (⟨"ShoeOrchardModel", "deals", "(IIIZ)V"⟩, prog_14_method_83_code, 6, none),
  (⟨"ShoeOrchardModel", "roads", "(I)I"⟩, prog_14_method_86_code, 2, (some .int)),
  (⟨"ShoeOrchardModel", "order", "(I)I"⟩, prog_14_method_90_code, 3, (some .int)),
  (⟨"ShoeOrchardModel", "shodOf", "(I)I"⟩, prog_14_method_87_code, 4, (some .int)),
  (⟨"ShoeOrchardModel", "bits", "(I)I"⟩, prog_14_method_68_code, 3, (some .int)),
  (⟨"ShoeOrchardModel", "orders", "(II)V"⟩, prog_14_method_89_code, 5, none),
  (⟨"ShoeOrchardModel", "goesOut", "(I)V"⟩, prog_14_method_88_code, 3, none),
  (⟨"ShoeOrchardModel", "mends", "(I)I"⟩, prog_14_method_92_code, 3, (some .int)),
  (⟨"ShoeOrchardModel", "isMended", "(III)Z"⟩, prog_14_method_91_code, 9, (some .boolean)),
  (⟨"ShoeOrchardModel", "when", "(I)I"⟩, prog_14_method_93_code, 3, (some .int)),
  (⟨"ShoeOrchardModel", "later", "(II)I"⟩, prog_14_method_94_code, 4, (some .int)),
  (⟨"ShoeOrchardModel", "lack", "(I)I"⟩, prog_14_method_95_code, 5, (some .int)),
  (⟨"ShoeOrchardModel", "feel", "(IZ)Z"⟩, prog_14_method_96_code, 4, (some .boolean)),
  (⟨"ShoeOrchardModel", "feet", "(I)I"⟩, prog_14_method_99_code, 7, (some .int)),
  (⟨"ShoeOrchardModel", "isFelt", "(I)Z"⟩, prog_14_method_98_code, 5, (some .boolean)),
  (⟨"ShoeOrchardModel", "fitsFeet", "(II)Z"⟩, prog_14_method_97_code, 3, (some .boolean)),
  (⟨"ShoeOrchardModel", "ask", "()I"⟩, prog_14_method_100_code, 8, (some .int)),
  (⟨"ShoeOrchardModel", "pairs", "()I"⟩, prog_14_method_101_code, 4, (some .int)),
  (⟨"ShoeOrchardModel", "idle", "()I"⟩, prog_14_method_102_code, 3, (some .int)),
  (⟨"ShoeOrchardModel", "sole", "()I"⟩, prog_14_method_103_code, 3, (some .int)),
  (⟨"ShoeOrchardModel", "twins", "()I"⟩, prog_14_method_104_code, 4, (some .int)),
  (⟨"ShoeOrchardModel", "best", "()I"⟩, prog_14_method_105_code, 5, (some .int)),
  (⟨"ShoeOrchardModel", "chance", "(III)I"⟩, prog_14_method_106_code, 13, (some .int)),
  (⟨"ShoeOrchardModel", "rests", "(IIII)I"⟩, prog_14_method_108_code, 12, (some .int)),
  (⟨"ShoeOrchardModel", "getsBy", "(IIIII)I"⟩, prog_14_method_107_code, 5, (some .int)),
  (⟨"ShoeOrchardModel", "ages", "(III)I"⟩, prog_14_method_111_code, 6, (some .int)),
  (⟨"ShoeOrchardModel", "drawsDeeds", "()Z"⟩, prog_14_method_110_code, 7, (some .boolean)),
  (⟨"ShoeOrchardModel", "draw", "(I)I"⟩, prog_14_method_109_code, 2, (some .int)),
  (⟨"ShoeOrchardModel", "mark", "(IZ)Z"⟩, prog_14_method_112_code, 3, (some .boolean)),
  (⟨"ShoeOrchardModel", "count", "(I)I"⟩, prog_14_method_114_code, 2, (some .int)),
  (⟨"ShoeOrchardModel", "bearing", "()I"⟩, prog_14_method_113_code, 3, (some .int)),
  (⟨"java/lang/String", "indexOf", "(I)I"⟩, prog_23_method_79_code, 2, (some .int)),
  (⟨"java/lang/String", "indexOf", "(II)I"⟩, prog_23_method_80_code, 3, (some .int)),
  (⟨"java/lang/String", "isLatin1", "()Z"⟩, prog_23_method_154_code, 1, (some .boolean)),
  (⟨"java/lang/String", "length", "()I"⟩, prog_23_method_54_code, 1, (some .int)),
  (⟨"java/lang/String", "coder", "()B"⟩, prog_23_method_152_code, 1, (some .byte)),
  (⟨"java/lang/String", "charAt", "(I)C"⟩, prog_23_method_56_code, 2, (some .char)),
  (⟨"java/lang/String", "checkIndex", "(II)V"⟩, prog_23_method_155_code, 2, none),
  (⟨"java/lang/StringLatin1", "indexOf", "([BIII)I"⟩, prog_24_method_22_code, 4, (some .int)),
  (⟨"java/lang/StringLatin1", "canEncode", "(I)Z"⟩, prog_24_method_4_code, 1, (some .boolean)),
  (⟨"java/lang/StringLatin1", "indexOfChar", "([BIII)I"⟩, prog_24_method_23_code, 6, (some .int)),
  (⟨"java/lang/StringLatin1", "charAt", "([BI)C"⟩, prog_24_method_2_code, 2, (some .char)),
  (⟨"java/util/Arrays", "fill", "([II)V"⟩, prog_30_method_103_code, 4, none),
  (⟨"java/lang/Integer", "bitCount", "(I)I"⟩, prog_20_method_49_code, 1, (some .int)),
  (⟨"java/lang/Math", "max", "(II)I"⟩, prog_21_method_65_code, 2, (some .int)),
  (⟨"java/lang/Math", "min", "(II)I"⟩, prog_21_method_69_code, 2, (some .int)),
  (⟨"java/lang/Math", "abs", "(I)I"⟩, prog_21_method_59_code, 1, (some .int)),
  (⟨"jdk/internal/util/Preconditions", "checkIndex", "(IILjava/util/function/BiFunction;)I"⟩, prog_32_method_11_code, 3, (some .int)),
  (⟨"ShoeOrchardLaw", "law", "([I)Z"⟩, code, 7, (some .boolean)),
  (⟨"ShoeOrchardLaw", "rests", "(LShoeOrchard;IIII[J)I"⟩, ⟨#[]⟩, 0, none)]
def mt0 : MethodName × ByteArray × Nat × Option FieldType := (⟨"", "", ""⟩, ⟨#[]⟩, 0, none)
def yy (j : Nat) : MethodName := (mtL.getD j mt0).1
def bb (j : Nat) : ByteArray := (mtL.getD j mt0).2.1
def ml (j : Nat) : Nat := (mtL.getD j mt0).2.2.1
def rr (j : Nat) : Option FieldType := (mtL.getD j mt0).2.2.2
def acL : List Nat := [1, 1, 3, 4, 2, 1, 1, 2, 2, 5, 3, 5, 1, 1, 4, 2, 3, 1, 3, 1, 3, 4, 3, 1, 3, 3, 5, 1, 2, 2, 2, 2, 2, 3, 2, 2, 2, 3, 3, 3, 3, 3, 2, 1, 2, 1, 2, 4, 4, 1, 1, 2, 2, 2, 2, 2, 3, 4, 2, 4, 2, 1, 3, 4, 2, 5, 3, 2, 1, 1, 2, 2, 2, 3, 3, 2, 3, 3, 3, 3, 3, 2, 1, 2, 1, 1, 1, 1, 2, 1, 1, 1, 1, 1, 1, 1, 2, 4, 2, 1, 2, 2, 2, 3, 2, 2, 1, 1, 4, 2, 1, 1, 3, 3, 3, 3, 3, 3, 2, 1, 1, 2, 2, 2, 3, 2, 2, 2, 3, 1, 2, 2, 2, 2, 3, 2, 1, 2, 3, 3, 2, 1, 2, 1, 1, 1, 1, 1, 2, 4, 3, 4, 1, 2, 3, 2, 5, 1, 5, 1, 4, 2, 1, 2, 1, 2, 1, 3, 1, 3, 1, 1, 1, 1, 1, 1, 1, 2, 4, 2, 1, 3, 2, 3, 4, 2, 2, 3, 1, 1, 2, 2, 2, 2, 2, 2, 3, 2, 2, 1, 3, 3, 3, 2, 3, 2, 3, 3, 2, 3, 3, 3, 2, 3, 4, 4, 2, 3, 4, 1, 4, 4, 4, 2, 3, 4, 4, 3, 4, 2, 3, 1, 3, 1, 2, 2, 2, 3, 2, 2, 2, 3, 5, 2, 2, 2, 1, 3, 2, 2, 4, 2, 3, 2, 3, 2, 2, 3, 1, 1, 1, 1, 1, 1, 4, 5, 5, 4, 1, 2, 3, 2, 1, 2, 3, 1, 1, 1, 2, 2, 4, 1, 4, 2, 2, 1, 2, 2, 1, 3, 1, 6]
def ac (j : Nat) : Nat := acL.getD j 0
def kdL : List Nat := [0, 0, 0, 0, 0, 1, 1, 1, 1, 1, 99, 99, 2, 2, 2, 2, 2, 3, 3, 3, 3, 3, 3, 4, 4, 4, 4, 5, 5, 5, 5, 5, 5, 5, 5, 5, 5, 5, 5, 5, 5, 5, 6, 6, 6, 6, 6, 6, 6, 7, 7, 7, 7, 7, 7, 7, 7, 7, 7, 7, 7, 8, 8, 8, 8, 8, 8, 9, 9, 9, 9, 9, 9, 9, 9, 9, 9, 9, 9, 9, 9, 9, 9, 9, 9, 9, 9, 10, 10, 10, 10, 99, 99, 10, 99, 10, 10, 10, 10, 10, 10, 10, 10, 10, 10, 10, 10, 11, 11, 11, 11, 11, 11, 11, 11, 11, 11, 11, 11, 11, 11, 11, 11, 11, 11, 11, 11, 11, 11, 11, 11, 11, 11, 11, 11, 11, 11, 11, 11, 11, 11, 11, 11, 11, 11, 11, 11, 11, 11, 11, 99, 11, 11, 11, 11, 11, 11, 99, 99, 12, 12, 12, 12, 12, 12, 12, 12, 12, 12, 12, 12, 12, 99, 99, 99, 99, 12, 12, 12, 12, 12, 12, 12, 12, 12, 12, 12, 12, 12, 12, 12, 12, 12, 12, 12, 12, 12, 12, 12, 12, 12, 99, 12, 12, 12, 12, 12, 12, 12, 99, 12, 12, 12, 12, 12, 12, 99, 12, 12, 12, 12, 12, 12, 12, 12, 12, 12, 12, 12, 12, 12, 12, 12, 12, 12, 12, 12, 12, 12, 12, 12, 12, 12, 12, 12, 12, 99, 12, 12, 12, 12, 12, 12, 12, 12, 12, 12, 12, 12, 12, 12, 12, 12, 12, 12, 12, 99, 12, 12, 12, 12, 12, 12, 20, 20, 20, 20, 20, 20, 99, 99, 99, 99, 99, 99, 99, 99, 99, 99, 99, 99, 99]
def kd (j : Nat) : Nat := kdL.getD j 99
def owL : List Nat := [0, 0, 0, 0, 0, 1, 1, 1, 1, 1, 1, 1, 2, 2, 2, 2, 2, 3, 3, 3, 3, 3, 3, 4, 4, 4, 4, 5, 5, 5, 5, 5, 5, 5, 5, 5, 5, 5, 5, 5, 5, 5, 6, 6, 6, 6, 6, 6, 6, 7, 7, 7, 7, 7, 7, 7, 7, 7, 7, 7, 7, 8, 8, 8, 8, 8, 8, 9, 9, 9, 9, 9, 9, 9, 9, 9, 9, 9, 9, 9, 9, 9, 9, 9, 9, 9, 9, 10, 10, 10, 10, 10, 10, 10, 10, 10, 10, 10, 10, 10, 10, 10, 10, 10, 10, 10, 10, 11, 11, 11, 11, 11, 11, 11, 11, 11, 11, 11, 11, 11, 11, 11, 11, 11, 11, 11, 11, 11, 11, 11, 11, 11, 11, 11, 11, 11, 11, 11, 11, 11, 11, 11, 11, 11, 11, 11, 11, 11, 11, 11, 11, 11, 11, 11, 11, 11, 11, 11, 11, 12, 12, 12, 12, 12, 12, 12, 12, 12, 12, 12, 12, 12, 12, 12, 12, 12, 12, 12, 12, 12, 12, 12, 12, 12, 12, 12, 12, 12, 12, 12, 12, 12, 12, 12, 12, 12, 12, 12, 12, 12, 12, 12, 12, 12, 12, 12, 12, 12, 12, 12, 12, 12, 12, 12, 12, 12, 12, 12, 12, 12, 12, 12, 12, 12, 12, 12, 12, 12, 12, 12, 12, 12, 12, 12, 12, 12, 12, 12, 12, 12, 12, 12, 12, 12, 12, 12, 12, 12, 12, 12, 12, 12, 12, 12, 12, 12, 12, 12, 12, 12, 12, 12, 12, 12, 12, 12, 12, 12, 12, 12, 12, 12, 12, 14, 14, 14, 14, 14, 14, 14, 15, 15, 15, 15, 16, 17, 18, 18, 18, 19, 13, 13]
def ow (j : Nat) : Nat := owL.getD j 99
def FL : List ((Nat × Nat × Nat) × Nat) := [((0, 9, 1), 390), ((0, 15, 2), 391), ((0, 19, 0), 388), ((1, 9, 64), 198), ((1, 15, 65), 199), ((1, 18, 66), 200), ((2, 9, 129), 289), ((2, 15, 130), 290), ((2, 18, 131), 291), ((2, 21, 128), 286), ((3, 9, 193), 427), ((3, 15, 194), 429), ((3, 18, 195), 431), ((3, 21, 198), 435), ((3, 30, 196), 433), ((3, 34, 197), 434), ((3, 46, 192), 425), ((4, 12, 256), 325), ((4, 26, 641), 151), ((4, 38, 644), 159), ((4, 51, 128), 287), ((4, 69, 643), 156), ((5, 12, 320), 309), ((5, 21, 321), 311), ((5, 30, 641), 152), ((5, 41, 644), 160), ((5, 79, 448), 211), ((5, 85, 456), 237), ((5, 89, 643), 157), ((5, 93, 453), 229), ((5, 108, 454), 232), ((5, 116, 455), 235), ((5, 118, 449), 215), ((5, 121, 459), 246), ((5, 124, 457), 240), ((5, 131, 458), 244), ((5, 144, 450), 219), ((5, 147, 451), 222), ((5, 150, 460), 248), ((5, 153, 452), 226), ((5, 156, 642), 155), ((5, 169, 461), 250), ((6, 11, 385), 402), ((6, 17, 386), 403), ((6, 22, 387), 404), ((6, 26, 388), 405), ((6, 34, 384), 400), ((7, 9, 453), 227), ((7, 15, 454), 230), ((7, 18, 455), 233), ((7, 21, 456), 236), ((7, 25, 457), 238), ((7, 28, 458), 242), ((7, 31, 459), 245), ((7, 34, 460), 247), ((7, 40, 461), 249), ((7, 44, 448), 210), ((7, 48, 449), 214), ((7, 51, 450), 218), ((7, 54, 451), 221), ((7, 57, 452), 225), ((8, 9, 514), 461), ((8, 15, 517), 465), ((8, 18, 518), 466), ((8, 21, 519), 467), ((8, 24, 520), 468), ((8, 27, 512), 457), ((8, 31, 515), 463), ((8, 40, 516), 464), ((8, 43, 513), 459), ((9, 9, 577), 338), ((9, 15, 578), 340), ((9, 18, 579), 342), ((9, 21, 580), 344), ((9, 24, 581), 346), ((9, 27, 582), 348), ((9, 30, 583), 350), ((9, 33, 584), 352), ((9, 37, 576), 336), ((9, 41, 454), 231), ((9, 50, 455), 234), ((9, 51, 458), 243), ((9, 69, 448), 212), ((9, 86, 449), 216), ((9, 89, 451), 223), ((9, 127, 457), 241), ((10, 9, 645), 162), ((10, 15, 640), 150), ((10, 19, 648), 165), ((10, 22, 644), 161), ((10, 32, 647), 164), ((10, 35, 641), 153), ((10, 50, 646), 163), ((10, 62, 643), 158), ((10, 68, 642), 154), ((11, 10, 704), 510), ((11, 19, 705), 511), ((11, 26, 706), 512), ((11, 33, 707), 513), ((11, 40, 708), 514), ((11, 49, 709), 515), ((11, 53, 710), 516), ((11, 59, 711), 517), ((11, 66, 712), 518), ((11, 73, 713), 519), ((11, 80, 714), 520), ((11, 84, 715), 521), ((11, 88, 716), 522), ((11, 102, 640), 149), ((11, 111, 320), 310), ((11, 123, 256), 326), ((11, 131, 453), 228), ((11, 134, 577), 339), ((11, 137, 578), 341), ((11, 150, 457), 239), ((11, 153, 579), 343), ((11, 156, 581), 347), ((11, 159, 580), 345), ((11, 162, 583), 351), ((11, 165, 582), 349), ((11, 199, 576), 337), ((11, 206, 128), 288), ((11, 232, 451), 224), ((11, 235, 448), 213), ((11, 240, 449), 217), ((11, 253, 513), 460), ((11, 256, 512), 458), ((11, 257, 514), 462), ((11, 271, 450), 220), ((11, 321, 717), 523), ((11, 346, 0), 389), ((11, 347, 384), 401), ((11, 353, 194), 430), ((11, 359, 193), 428), ((11, 364, 192), 426), ((11, 367, 195), 432), ((12, 1, 768), 1457), ((12, 11, 770), 1459), ((12, 14, 769), 1458), ((12, 24, 772), 1461), ((12, 27, 773), 1462), ((12, 30, 774), 1463), ((12, 92, 777), 1466), ((12, 95, 778), 1467), ((12, 98, 779), 1468), ((12, 101, 780), 1469), ((12, 104, 782), 1471), ((12, 107, 783), 1472), ((12, 110, 784), 1473), ((12, 113, 785), 1474), ((12, 116, 789), 1478), ((12, 119, 790), 1479), ((12, 122, 791), 1480), ((12, 125, 792), 1481), ((12, 128, 794), 1483), ((12, 132, 795), 1484), ((12, 135, 796), 1485), ((12, 138, 798), 1487), ((12, 141, 799), 1488), ((12, 155, 771), 1460), ((12, 174, 775), 1464), ((12, 177, 776), 1465), ((12, 202, 787), 1476), ((12, 205, 786), 1475), ((12, 223, 781), 1470), ((12, 226, 788), 1477), ((12, 296, 793), 1482), ((12, 375, 797), 1486), ((12, 395, 801), 1490), ((12, 401, 800), 1489), ((12, 419, 802), 1491), ((14, 9, 1000), 1993), ((14, 15, 1001), 1992)]
def ML : List ((Nat × Nat × Nat) × Nat) := [((0, 29, 288), 1210), ((1, 28, 10), 927), ((1, 32, 11), 930), ((2, 31, 74), 1061), ((2, 37, 76), 1062), ((2, 40, 78), 1063), ((2, 43, 79), 1064), ((2, 47, 80), 1065), ((2, 50, 81), 1066), ((2, 54, 82), 1067), ((3, 24, 287), 1114), ((3, 37, 284), 1120), ((3, 43, 20), 1121), ((3, 49, 22), 1130), ((3, 52, 21), 1125), ((3, 56, 286), 1129), ((4, 18, 13), 864), ((4, 21, 89), 865), ((4, 30, 25), 866), ((4, 34, 105), 885), ((4, 43, 96), 871), ((4, 47, 98), 872), ((4, 54, 90), 873), ((4, 57, 26), 874), ((4, 61, 14), 881), ((4, 65, 99), 878), ((4, 73, 52), 879), ((4, 79, 51), 880), ((5, 18, 50), 574), ((5, 25, 89), 575), ((5, 33, 29), 688), ((5, 37, 105), 818), ((5, 46, 96), 693), ((5, 50, 30), 722), ((5, 53, 32), 769), ((5, 56, 33), 775), ((5, 60, 34), 779), ((5, 63, 35), 783), ((5, 66, 36), 787), ((5, 69, 37), 791), ((5, 72, 98), 726), ((5, 76, 90), 730), ((5, 82, 31), 731), ((5, 99, 100), 750), ((5, 104, 101), 756), ((5, 110, 103), 764), ((5, 133, 99), 735), ((5, 137, 51), 741), ((5, 141, 52), 745), ((5, 159, 38), 795), ((5, 164, 102), 812), ((5, 175, 7), 823), ((5, 179, 39), 799), ((5, 182, 104), 813), ((5, 185, 40), 803), ((5, 188, 41), 807), ((6, 30, 67), 382), ((6, 38, 45), 977), ((6, 41, 75), 981), ((6, 45, 4), 1284), ((7, 60, 6), 492), ((7, 69, 8), 838), ((7, 73, 54), 915), ((7, 83, 55), 922), ((7, 87, 9), 923), ((7, 91, 287), 933), ((7, 97, 286), 934), ((7, 100, 58), 960), ((7, 103, 288), 961), ((8, 34, 287), 1146), ((8, 46, 65), 1155), ((8, 56, 66), 1160), ((9, 52, 284), 503), ((9, 58, 69), 506), ((9, 61, 55), 907), ((9, 65, 56), 911), ((9, 72, 71), 903), ((9, 76, 57), 918), ((9, 80, 58), 955), ((9, 83, 59), 956), ((9, 92, 72), 972), ((9, 95, 74), 989), ((9, 98, 73), 990), ((9, 101, 77), 991), ((9, 105, 60), 995), ((9, 108, 54), 1021), ((9, 111, 286), 1030), ((9, 117, 83), 1039), ((9, 121, 81), 1043), ((9, 124, 287), 1044), ((10, 25, 90), 579), ((10, 28, 91), 583), ((10, 38, 92), 586), ((10, 41, 93), 589), ((10, 44, 94), 594), ((10, 47, 95), 597), ((10, 56, 273), 602), ((10, 71, 276), 697), ((10, 74, 97), 718), ((10, 80, 96), 740), ((10, 84, 278), 698), ((10, 88, 104), 822), ((10, 91, 98), 754), ((10, 95, 102), 760), ((11, 46, 67), 332), ((11, 58, 42), 374), ((11, 92, 50), 488), ((11, 95, 68), 496), ((11, 98, 109), 557), ((11, 106, 28), 570), ((11, 110, 106), 829), ((11, 112, 53), 833), ((11, 115, 13), 843), ((11, 116, 1), 847), ((11, 117, 43), 851), ((11, 120, 24), 860), ((11, 124, 15), 886), ((11, 127, 54), 895), ((11, 140, 70), 899), ((11, 144, 72), 935), ((11, 147, 58), 943), ((11, 168, 73), 951), ((11, 172, 74), 968), ((11, 175, 44), 973), ((11, 179, 76), 985), ((11, 182, 78), 1005), ((11, 185, 79), 1009), ((11, 189, 80), 1017), ((11, 192, 81), 1026), ((11, 196, 82), 1035), ((11, 202, 46), 1049), ((11, 207, 16), 1057), ((11, 211, 84), 1068), ((11, 215, 123), 1076), ((11, 218, 124), 1080), ((11, 222, 71), 1089), ((11, 225, 126), 1090), ((11, 228, 128), 1098), ((11, 238, 62), 1142), ((11, 243, 63), 1147), ((11, 247, 129), 1102), ((11, 250, 64), 1151), ((11, 260, 133), 1168), ((11, 263, 75), 1177), ((11, 265, 135), 1178), ((11, 268, 2), 1198), ((11, 274, 3), 1206), ((11, 278, 142), 1215), ((11, 281, 286), 1220), ((11, 287, 285), 1233), ((11, 292, 59), 1084), ((11, 296, 287), 1251), ((11, 299, 83), 1256), ((11, 302, 150), 1257), ((11, 305, 157), 1310), ((11, 315, 158), 1378), ((11, 325, 152), 1264), ((11, 329, 47), 1280), ((11, 333, 48), 1289), ((11, 337, 55), 1297), ((11, 340, 85), 1106), ((11, 343, 86), 1298), ((11, 350, 88), 562), ((11, 352, 18), 1110), ((11, 356, 60), 1115), ((11, 362, 19), 1116), ((11, 370, 134), 1172), ((11, 374, 57), 1176), ((11, 377, 136), 1182), ((11, 380, 288), 1219), ((11, 383, 153), 1268), ((12, 7, 161), 1390), ((12, 144, 163), 1429), ((12, 148, 164), 1433), ((12, 151, 172), 1571), ((12, 160, 173), 1575), ((12, 164, 174), 1578), ((12, 171, 175), 1583), ((12, 180, 195), 1662), ((12, 183, 179), 1598), ((12, 186, 177), 1590), ((12, 189, 186), 1626), ((12, 192, 185), 1622), ((12, 195, 187), 1630), ((12, 199, 181), 1606), ((12, 208, 180), 1602), ((12, 212, 182), 1610), ((12, 216, 201), 1686), ((12, 220, 171), 1567), ((12, 229, 176), 1586), ((12, 232, 198), 1674), ((12, 235, 178), 1594), ((12, 239, 183), 1614), ((12, 242, 184), 1618), ((12, 246, 188), 1634), ((12, 249, 189), 1638), ((12, 252, 190), 1642), ((12, 255, 196), 1666), ((12, 259, 200), 1682), ((12, 262, 191), 1646), ((12, 265, 192), 1650), ((12, 268, 197), 1670), ((12, 271, 193), 1654), ((12, 274, 194), 1658), ((12, 277, 209), 1717), ((12, 280, 166), 1441), ((12, 284, 167), 1445), ((12, 287, 168), 1449), ((12, 290, 169), 1453), ((12, 293, 165), 1437), ((12, 299, 220), 1759), ((12, 302, 205), 1701), ((12, 305, 206), 1705), ((12, 309, 208), 1713), ((12, 312, 216), 1744), ((12, 315, 204), 1697), ((12, 318, 207), 1709), ((12, 321, 215), 1740), ((12, 324, 210), 1720), ((12, 327, 214), 1736), ((12, 330, 222), 1767), ((12, 333, 223), 1771), ((12, 336, 230), 1799), ((12, 339, 203), 1693), ((12, 342, 212), 1728), ((12, 345, 218), 1751), ((12, 348, 219), 1755), ((12, 351, 221), 1763), ((12, 354, 225), 1779), ((12, 357, 226), 1783), ((12, 360, 228), 1791), ((12, 363, 232), 1807), ((12, 366, 235), 1819), ((12, 369, 237), 1827), ((12, 372, 239), 1835), ((12, 378, 242), 1847), ((12, 382, 241), 1843), ((12, 386, 248), 1870), ((12, 389, 245), 1859), ((12, 392, 246), 1863), ((12, 398, 247), 1866), ((12, 404, 250), 1878), ((12, 407, 257), 1906), ((12, 410, 256), 1902), ((12, 415, 266), 1943), ((12, 431, 269), 1954), ((12, 434, 268), 1950), ((12, 437, 272), 1970), ((13, 15, 107), 137), ((13, 18, 162), 1396), ((13, 21, 108), 553), ((13, 25, 160), 1386), ((13, 26, 110), 566), ((13, 30, 170), 1563), ((13, 31, 111), 856), ((13, 34, 199), 1678), ((13, 35, 112), 891), ((13, 39, 202), 1689), ((13, 40, 113), 939), ((13, 43, 211), 1724), ((13, 44, 114), 947), ((13, 48, 213), 1732), ((13, 49, 115), 964), ((13, 52, 217), 1747), ((13, 53, 116), 1001), ((13, 56, 224), 1775), ((13, 57, 117), 1013), ((13, 60, 227), 1787), ((13, 61, 118), 1022), ((13, 65, 229), 1795), ((13, 66, 119), 1031), ((13, 69, 231), 1803), ((13, 70, 120), 1045), ((13, 74, 233), 1811), ((13, 75, 121), 1053), ((13, 78, 234), 1815), ((13, 79, 122), 1072), ((13, 82, 236), 1823), ((13, 83, 125), 1085), ((13, 86, 238), 1831), ((13, 87, 127), 1094), ((13, 90, 240), 1839), ((13, 91, 130), 1134), ((13, 94, 243), 1851), ((13, 95, 131), 1138), ((13, 98, 244), 1855), ((13, 99, 132), 1164), ((13, 102, 249), 1874), ((13, 103, 137), 1186), ((13, 106, 251), 1882), ((13, 107, 138), 1190), ((13, 110, 252), 1886), ((13, 111, 139), 1194), ((13, 115, 254), 1894), ((13, 116, 140), 1202), ((13, 119, 255), 1898), ((13, 120, 141), 1211), ((13, 123, 258), 1910), ((13, 124, 143), 1221), ((13, 127, 259), 1914), ((13, 128, 144), 1225), ((13, 131, 260), 1918), ((13, 132, 145), 1229), ((13, 135, 261), 1922), ((13, 136, 146), 1239), ((13, 139, 262), 1926), ((13, 140, 147), 1243), ((13, 143, 263), 1930), ((13, 144, 148), 1247), ((13, 147, 253), 1890), ((13, 148, 149), 1252), ((13, 152, 264), 1934), ((13, 153, 291), 1302), ((13, 158, 265), 1939), ((13, 159, 159), 1382), ((13, 162, 151), 1260), ((13, 165, 267), 1946), ((13, 166, 154), 1276), ((13, 169, 270), 1962), ((13, 170, 155), 1293), ((13, 173, 271), 1966), ((14, 335, 277), 620), ((14, 492, 275), 610), ((14, 495, 283), 702), ((14, 505, 276), 616), ((14, 633, 274), 606), ((14, 637, 280), 624), ((14, 1059, 289), 708), ((15, 9, 279), 705), ((15, 38, 287), 633), ((15, 88, 281), 627), ((15, 92, 286), 630), ((15, 95, 282), 636)]
def MLN : List ((Nat × Nat × Nat) × Nat) := [((4, 11, 12), 324), ((5, 11, 49), 308), ((6, 33, 0), 384), ((7, 39, 5), 194), ((11, 9, 87), 145), ((11, 18, 49), 188), ((11, 25, 12), 282), ((11, 32, 27), 303), ((11, 39, 23), 319), ((11, 65, 0), 418), ((11, 72, 17), 421), ((11, 79, 61), 453)]
def CK : List ((Nat × Nat × Nat) × Nat) := [((4, 9, 2), 323), ((5, 9, 7), 307), ((6, 9, 9), 378), ((6, 20, 0), 380), ((7, 37, 1), 192), ((11, 7, 10), 143), ((11, 16, 7), 186), ((11, 23, 2), 280), ((11, 30, 5), 301), ((11, 37, 4), 317), ((11, 44, 9), 330), ((11, 56, 6), 372), ((11, 63, 0), 417), ((11, 70, 3), 419), ((11, 77, 8), 451), ((13, 8, 11), 135), ((13, 16, 12), 1395)]
def LK : List ((Nat × Nat × Int) × Nat) := [((10, 66, 32), 593), ((11, 348, 255), 561), ((11, 386, 1103515245), 1272), ((11, 388, 12345), 1273), ((11, 390, 2147483648), 1274), ((11, 392, 65536), 1275), ((12, 34, 1037892), 1400), ((12, 36, 609928), 1401), ((12, 38, 1633), 1402), ((12, 40, 1119812451), 1403), ((12, 42, 310968), 1404), ((12, 44, 30461738), 1405), ((12, 46, 730246), 1406), ((12, 48, 12177978), 1407), ((12, 50, 4003641), 1408), ((12, 52, 28071), 1409), ((12, 54, 36016323), 1410), ((12, 56, 14032492), 1411), ((12, 58, 30927602), 1412), ((12, 60, 1273225), 1413), ((12, 62, 173192972), 1414), ((12, 64, 122416), 1415), ((12, 66, 49598629259), 1416), ((12, 68, 1320124011), 1417), ((12, 70, 30596128), 1418), ((12, 72, 6040476), 1419), ((12, 74, 583696626), 1420), ((12, 76, 20983), 1421), ((12, 78, 19741), 1422), ((12, 80, 1891), 1423), ((12, 82, 573), 1424), ((12, 84, 975695), 1425), ((12, 86, 47109344), 1426), ((12, 88, 6040484), 1427), ((12, 90, 204726), 1428), ((12, 158, 37), 1574), ((12, 167, 10), 1581), ((12, 169, 48), 1582), ((12, 413, 1000000), 1938), ((12, 423, 1103515245), 1958), ((12, 425, 12345), 1959), ((12, 427, 2147483648), 1960), ((12, 429, 65536), 1961), ((13, 19, 4294967295), 1974)]
def IK : List ((Nat × Nat × Int) × Nat) := [((17, 265, 1431655765), 1236), ((17, 266, 858993459), 1237), ((17, 267, 252645135), 1238)]
def SK : List ((Nat × Nat × Nat) × Nat) := [((4, 41, 12), 870), ((5, 44, 1), 692), ((5, 97, 3), 749), ((5, 102, 4), 755), ((5, 114, 5), 768), ((5, 127, 6), 773), ((5, 129, 7), 774), ((5, 162, 10), 827), ((5, 167, 11), 828), ((5, 191, 8), 811), ((5, 193, 9), 817), ((10, 54, 0), 601), ((10, 78, 2), 739)]
def OB : List ((Nat × Nat) × Nat) := [((0, 3), 387), ((1, 3), 197), ((2, 3), 285), ((3, 3), 424), ((4, 3), 322), ((5, 3), 306), ((6, 3), 377), ((7, 3), 191), ((8, 3), 456), ((9, 3), 335), ((10, 3), 148), ((11, 1), 140), ((12, 18), 1399)]
def AC : List ((Nat × Nat) × Nat) := [((0, 23), 1288), ((1, 22), 842), ((2, 25), 890), ((7, 63), 837), ((8, 50), 1159), ((9, 44), 500)]
def GS : List ((Nat × Nat × Nat) × Nat) := [((14, 38, 0), 614), ((14, 1053, 202), 657)]
def GN : List ((Nat × Nat × Nat) × Nat) := [((7, 77, 200), 916), ((7, 80, 201), 999)]
def fr (n : Nat) : String × String × String := if n = 1000 then ("java/lang/String", "value", "[B") else if n = 1001 then ("java/lang/String", "coder", "B") else ((cT (n / 64) (n % 64)).1, (cT (n / 64) (n % 64)).2.1, (cT (n / 64) (n % 64)).2.2.1)
def gs (n : Nat) : String × String × String := if n = 0 then ("java/lang/String", "COMPACT_STRINGS", "Z") else if n = 200 then ("ShoeOrchard", "STANDS", "[I") else if n = 201 then ("ShoeOrchard", "ROAD", "[I") else ("jdk/internal/util/Preconditions", "SIOOBE_FORMATTER", "Ljava/util/function/BiFunction;")
def fFL (q : Nat × Nat × Nat) : Cond := .fieldLink (on q.1) q.2.1 (fr q.2.2).1 (fr q.2.2).2.1 (fr q.2.2).2.2
def fML (q : Nat × Nat × Nat) : Cond := .methodLink (on q.1) q.2.1 (yy q.2.2)
def fMLN (q : Nat × Nat × Nat) : Cond := .methodLinkNest (on q.1) q.2.1 (yy q.2.2) "ShoeOrchard"
def fCK (q : Nat × Nat × Nat) : Cond := .classLink (on q.1) q.2.1 (on q.2.2)
def fLK (q : Nat × Nat × Int) : Cond := .constantLong (on q.1) q.2.1 (Int64.ofInt q.2.2)
def fIK (q : Nat × Nat × Int) : Cond := .constant (on q.1) q.2.1 (Int32.ofInt q.2.2)
def fOB (q : Nat × Nat) : Cond := .methodLink (on q.1) q.2 objectInit
def fAC (q : Nat × Nat) : Cond := .methodLink (on q.1) q.2 arraycopyName
def fGS (q : Nat × Nat × Nat) : Cond := .fieldLink (on q.1) q.2.1 (gs q.2.2).1 (gs q.2.2).2.1 (gs q.2.2).2.2
def fGN (q : Nat × Nat × Nat) : Cond := .fieldLinkNest (on q.1) q.2.1 (gs q.2.2).1 (gs q.2.2).2.1 (gs q.2.2).2.2 "ShoeOrchard"
def fSK (q : Nat × Nat × Nat) : Cond := .stringRef (on q.1) q.2.1 (String.ofList ((tS.getD q.2.2 []).map (fun c => Char.ofNat c.toInt.toNat)))
theorem FL_ok : ∀ q ∈ FL, fFL q.1 ∈ gT := gT_in fFL FL (by decide +kernel)
theorem ML_ok : ∀ q ∈ ML, fML q.1 ∈ gT := gT_in fML ML (by decide +kernel)
theorem CK_ok : ∀ q ∈ CK, fCK q.1 ∈ gT := gT_in fCK CK (by decide +kernel)
theorem LK_ok : ∀ q ∈ LK, fLK q.1 ∈ gT := gT_in fLK LK (by decide +kernel)
theorem IK_ok : ∀ q ∈ IK, fIK q.1 ∈ gT := gT_in fIK IK (by decide +kernel)
theorem OB_ok : ∀ q ∈ OB, fOB q.1 ∈ gT := gT_in fOB OB (by decide +kernel)
theorem AC_ok : ∀ q ∈ AC, fAC q.1 ∈ gT := gT_in fAC AC (by decide +kernel)
theorem GS_ok : ∀ q ∈ GS, fGS q.1 ∈ gT := gT_in fGS GS (by decide +kernel)
theorem MLN_ok : ∀ q ∈ MLN, fMLN q.1 ∈ lw_tbl := tb_in fMLN MLN (by decide +kernel)
theorem GN_ok : ∀ q ∈ GN, fGN q.1 ∈ lw_tbl := tb_in fGN GN (by decide +kernel)
def fCO (j : Nat) : Cond := .code (yy j) (bb j) (ml j) (rr j)
def SO : List (Nat × Nat) := [(10, 928), (11, 931), (91, 584), (92, 587), (94, 595), (150, 1258), (157, 1311), (158, 1379), (172, 1572), (173, 1576), (174, 1579), (175, 1584), (201, 1687), (209, 1718), (216, 1745), (246, 1864), (266, 1944), (279, 706), (280, 625), (281, 628), (282, 637), (283, 703), (284, 504), (285, 1234), (286, 631), (287, 634), (288, 962), (289, 709), (291, 1303)]
def fSO (j : Nat) : Cond := .static (yy j)
def NO : List (Nat × Nat) := [(0, 385), (1, 848), (2, 1199), (3, 1207), (4, 1285), (5, 195), (6, 493), (7, 824), (8, 839), (9, 924), (12, 283), (13, 844), (14, 882), (15, 887), (16, 1058), (17, 422), (18, 1111), (19, 1117), (20, 1123), (21, 1127), (22, 1132), (23, 320), (24, 861), (25, 868), (26, 876), (27, 304), (28, 571), (29, 690), (30, 724), (31, 733), (32, 771), (33, 777), (34, 781), (35, 785), (36, 789), (37, 793), (38, 797), (39, 801), (40, 805), (41, 809), (42, 375), (43, 852), (44, 974), (45, 979), (46, 1050), (47, 1281), (48, 1290), (49, 189), (50, 489), (51, 742), (52, 746), (53, 834), (54, 896), (55, 908), (56, 912), (57, 919), (58, 944), (59, 957), (60, 996), (61, 454), (62, 1143), (63, 1148), (64, 1152), (65, 1157), (66, 1162), (67, 333), (68, 497), (69, 508), (70, 900), (71, 904), (72, 936), (73, 952), (74, 969), (75, 982), (76, 986), (77, 993), (78, 1006), (79, 1010), (80, 1018), (81, 1027), (82, 1036), (83, 1040), (84, 1069), (85, 1107), (86, 1299), (87, 146), (88, 563), (89, 576), (90, 580), (93, 591), (95, 599), (96, 694), (97, 720), (98, 727), (99, 736), (100, 751), (101, 757), (102, 761), (103, 765), (104, 814), (105, 819), (106, 830), (107, 138), (108, 554), (109, 559), (110, 567), (111, 857), (112, 892), (113, 940), (114, 948), (115, 965), (116, 1002), (117, 1014), (118, 1023), (119, 1032), (120, 1046), (121, 1054), (122, 1073), (123, 1078), (124, 1082), (125, 1086), (126, 1092), (127, 1095), (128, 1100), (129, 1104), (130, 1135), (131, 1139), (132, 1165), (133, 1170), (134, 1174), (135, 1180), (136, 1184), (137, 1187), (138, 1191), (139, 1195), (140, 1203), (141, 1212), (142, 1217), (143, 1222), (144, 1226), (145, 1230), (146, 1240), (147, 1244), (148, 1248), (149, 1253), (151, 1261), (152, 1266), (153, 1270), (154, 1277), (155, 1294), (156, 1307), (159, 1383), (160, 1387), (161, 1392), (162, 1397), (163, 1431), (164, 1435), (165, 1439), (166, 1443), (167, 1447), (168, 1451), (169, 1455), (170, 1564), (171, 1569), (176, 1588), (177, 1592), (178, 1596), (179, 1600), (180, 1604), (181, 1608), (182, 1612), (183, 1616), (184, 1620), (185, 1624), (186, 1628), (187, 1632), (188, 1636), (189, 1640), (190, 1644), (191, 1648), (192, 1652), (193, 1656), (194, 1660), (195, 1664), (196, 1668), (197, 1672), (198, 1676), (199, 1679), (200, 1684), (202, 1690), (203, 1695), (204, 1699), (205, 1703), (206, 1707), (207, 1711), (208, 1715), (210, 1722), (211, 1725), (212, 1730), (213, 1733), (214, 1738), (215, 1742), (217, 1748), (218, 1753), (219, 1757), (220, 1761), (221, 1765), (222, 1769), (223, 1773), (224, 1776), (225, 1781), (226, 1785), (227, 1788), (228, 1793), (229, 1796), (230, 1801), (231, 1804), (232, 1809), (233, 1812), (234, 1816), (235, 1821), (236, 1824), (237, 1829), (238, 1832), (239, 1837), (240, 1840), (241, 1845), (242, 1849), (243, 1852), (244, 1856), (245, 1861), (247, 1868), (248, 1872), (249, 1875), (250, 1880), (251, 1883), (252, 1887), (253, 1891), (254, 1895), (255, 1899), (256, 1904), (257, 1908), (258, 1911), (259, 1915), (260, 1919), (261, 1923), (262, 1927), (263, 1931), (264, 1935), (265, 1940), (267, 1947), (268, 1952), (269, 1956), (270, 1963), (271, 1967), (272, 1972), (273, 603), (274, 607), (275, 611), (276, 617), (277, 621), (278, 699)]
def fNO (j : Nat) : Cond := .instanceMethod (yy j)
def EO : List (Nat × Nat) := [(1, 849), (2, 1200), (3, 1208), (4, 1286), (6, 494), (7, 825), (8, 840), (9, 925), (13, 845), (14, 883), (15, 888), (16, 1059), (18, 1112), (19, 1118), (20, 27), (21, 28), (22, 29), (24, 862), (25, 18), (26, 19), (28, 572), (29, 4), (30, 6), (31, 7), (32, 8), (33, 9), (34, 10), (35, 11), (36, 12), (37, 13), (38, 14), (39, 15), (40, 16), (41, 17), (43, 853), (44, 975), (45, 20), (46, 1051), (47, 1282), (48, 1291), (50, 490), (51, 743), (52, 747), (53, 835), (54, 897), (55, 909), (56, 913), (57, 920), (58, 945), (59, 958), (60, 997), (62, 1144), (63, 1149), (64, 1153), (65, 30), (66, 31), (68, 498), (69, 0), (70, 901), (71, 905), (72, 937), (73, 953), (74, 970), (75, 983), (76, 987), (77, 21), (78, 1007), (79, 1011), (80, 1019), (81, 1028), (82, 1037), (83, 1041), (84, 1070), (85, 1108), (86, 1300), (88, 564), (89, 577), (90, 581), (93, 2), (95, 3), (96, 695), (97, 5), (98, 728), (99, 737), (100, 752), (101, 758), (102, 762), (103, 766), (104, 815), (105, 820), (106, 831), (108, 555), (109, 1), (110, 568), (111, 858), (112, 893), (113, 941), (114, 949), (115, 966), (116, 1003), (117, 1015), (118, 1024), (119, 1033), (120, 1047), (121, 1055), (122, 1074), (123, 22), (124, 23), (125, 1087), (126, 24), (127, 1096), (128, 25), (129, 26), (130, 1136), (131, 1140), (132, 1166), (133, 32), (134, 33), (135, 34), (136, 35), (137, 1188), (138, 1192), (139, 1196), (140, 1204), (141, 1213), (142, 36), (143, 1223), (144, 1227), (145, 1231), (146, 1241), (147, 1245), (148, 1249), (149, 1254), (151, 1262), (152, 37), (153, 38), (154, 1278), (155, 1295), (156, 1308), (159, 1384), (160, 1388), (161, 40), (163, 41), (164, 42), (165, 43), (166, 44), (167, 45), (168, 46), (169, 47), (170, 1565), (171, 48), (176, 49), (177, 50), (178, 51), (179, 52), (180, 53), (181, 54), (182, 55), (183, 56), (184, 57), (185, 58), (186, 59), (187, 60), (188, 61), (189, 62), (190, 63), (191, 64), (192, 65), (193, 66), (194, 67), (195, 68), (196, 69), (197, 70), (198, 71), (199, 1680), (200, 72), (202, 1691), (203, 73), (204, 74), (205, 75), (206, 76), (207, 77), (208, 78), (210, 79), (211, 1726), (212, 80), (213, 1734), (214, 81), (215, 82), (217, 1749), (218, 83), (219, 84), (220, 85), (221, 86), (222, 87), (223, 88), (224, 1777), (225, 89), (226, 90), (227, 1789), (228, 91), (229, 1797), (230, 92), (231, 1805), (232, 93), (233, 1813), (234, 1817), (235, 94), (236, 1825), (237, 95), (238, 1833), (239, 96), (240, 1841), (241, 97), (242, 98), (243, 1853), (244, 1857), (245, 99), (247, 100), (248, 101), (249, 1876), (250, 102), (251, 1884), (252, 1888), (253, 1892), (254, 1896), (255, 1900), (256, 103), (257, 104), (258, 1912), (259, 1916), (260, 1920), (261, 1924), (262, 1928), (263, 1932), (264, 1936), (265, 1941), (267, 1948), (268, 105), (269, 106), (270, 1964), (271, 1968), (272, 107), (273, 604), (274, 608), (275, 612), (276, 618), (277, 622), (278, 700)]
def fEO (j : Nat) : Cond := .selects (yy j).cls (yy j) (yy j)
def IO0 : List (Nat × Nat) := [(0, 118), (1, 112), (2, 113), (3, 119), (4, 115), (5, 114), (6, 117), (7, 111), (8, 120), (9, 116), (10, 110), (11, 109), (12, 123), (13, 108), (14, 124), (15, 125), (16, 122), (17, 130), (18, 126), (19, 128)]
def fIO0 (o : Nat) : Cond := .initialized (on o)
def TO : List (Nat × Nat) := [(0, 383), (1, 193), (2, 281), (3, 420), (4, 318), (5, 302), (6, 373), (7, 187), (8, 452), (9, 331), (10, 144), (11, 136), (12, 1393)]
def fTO (k : Nat) : Cond := .instantiable (on k) (ftT k).length
def LY : List ((Nat × Nat) × Nat) := [((0, 0), 392), ((0, 1), 394), ((0, 2), 396), ((1, 0), 201), ((1, 1), 203), ((1, 2), 205), ((2, 0), 292), ((2, 1), 294), ((2, 2), 296), ((2, 3), 298), ((3, 0), 436), ((3, 1), 438), ((3, 2), 440), ((3, 3), 442), ((3, 4), 444), ((3, 5), 446), ((3, 6), 448), ((4, 0), 327), ((5, 0), 312), ((5, 1), 314), ((6, 0), 406), ((6, 1), 408), ((6, 2), 410), ((6, 3), 412), ((6, 4), 414), ((7, 0), 251), ((7, 1), 253), ((7, 2), 255), ((7, 3), 257), ((7, 4), 259), ((7, 5), 261), ((7, 6), 263), ((7, 7), 265), ((7, 8), 267), ((7, 9), 269), ((7, 10), 271), ((7, 11), 273), ((7, 12), 275), ((7, 13), 277), ((8, 0), 469), ((8, 1), 471), ((8, 2), 473), ((8, 3), 475), ((8, 4), 477), ((8, 5), 479), ((8, 6), 481), ((8, 7), 483), ((8, 8), 485), ((9, 0), 353), ((9, 1), 355), ((9, 2), 357), ((9, 3), 359), ((9, 4), 361), ((9, 5), 363), ((9, 6), 365), ((9, 7), 367), ((9, 8), 369), ((10, 0), 166), ((10, 1), 168), ((10, 2), 170), ((10, 3), 172), ((10, 4), 174), ((10, 5), 176), ((10, 6), 178), ((10, 7), 180), ((10, 8), 182), ((11, 0), 524), ((11, 1), 526), ((11, 2), 528), ((11, 3), 530), ((11, 4), 532), ((11, 5), 534), ((11, 6), 536), ((11, 7), 538), ((11, 8), 540), ((11, 9), 542), ((11, 10), 544), ((11, 11), 546), ((11, 12), 548), ((11, 13), 550), ((12, 0), 1492), ((12, 1), 1494), ((12, 2), 1496), ((12, 3), 1498), ((12, 4), 1500), ((12, 5), 1502), ((12, 6), 1504), ((12, 7), 1506), ((12, 8), 1508), ((12, 9), 1510), ((12, 10), 1512), ((12, 11), 1514), ((12, 12), 1516), ((12, 13), 1518), ((12, 14), 1520), ((12, 15), 1522), ((12, 16), 1524), ((12, 17), 1526), ((12, 18), 1528), ((12, 19), 1530), ((12, 20), 1532), ((12, 21), 1534), ((12, 22), 1536), ((12, 23), 1538), ((12, 24), 1540), ((12, 25), 1542), ((12, 26), 1544), ((12, 27), 1546), ((12, 28), 1548), ((12, 29), 1550), ((12, 30), 1552), ((12, 31), 1554), ((12, 32), 1556), ((12, 33), 1558), ((12, 34), 1560)]
def fLY (q : Nat × Nat) : Cond := u_lay (on q.1) (cT q.1) q.2
def AR : List (FieldType × Nat) := [(.char, 185), (.int, 208), (.long, 209), (.boolean, 399)]
def fAR (t : FieldType) : Cond := .arrayClass t
def AN : List (Cond × Nat) := [(.native arraycopyName, 502), (.static arraycopyName, 501), (.initialized "java/lang/System", 121), (.instanceMethod objectInit, 141)]
def fAN (c : Cond) : Cond := c
theorem LY_ok : ∀ q ∈ LY, fLY q.1 ∈ gT := gT_in fLY LY (by decide +kernel)
theorem AR_ok : ∀ q ∈ AR, fAR q.1 ∈ gT := gT_in fAR AR (by decide +kernel)
theorem AN_ok : ∀ q ∈ AN, fAN q.1 ∈ gT := gT_in fAN AN (by decide +kernel)
theorem SO_ok : ∀ q ∈ SO, fSO q.1 ∈ gT := gT_in fSO SO (by decide +kernel)
theorem NO_ok : ∀ q ∈ NO, fNO q.1 ∈ gT := gT_in fNO NO (by decide +kernel)
theorem EO_ok : ∀ q ∈ EO, fEO q.1 ∈ gT := gT_in fEO EO (by decide +kernel)
theorem IO0_ok : ∀ q ∈ IO0, fIO0 q.1 ∈ gT := gT_in fIO0 IO0 (by decide +kernel)
theorem TO_ok : ∀ q ∈ TO, fTO q.1 ∈ gT := gT_in fTO TO (by decide +kernel)
end
section
theorem gt_1 {w : Cond} (h : w ∈ tables_1_1) (hg : goodWord w = true) : w ∈ gT := List.mem_filter.mpr ⟨List.mem_append_right _ (show w ∈ tables_1 from List.mem_append_left _ h), hg⟩
theorem gt_2 {w : Cond} (h : w ∈ tables_1_2) (hg : goodWord w = true) : w ∈ gT := List.mem_filter.mpr ⟨List.mem_append_right _ (show w ∈ tables_1 from List.mem_append_right _ (List.mem_append_left _ h)), hg⟩
theorem gt_3 {w : Cond} (h : w ∈ tables_1_3) (hg : goodWord w = true) : w ∈ gT := List.mem_filter.mpr ⟨List.mem_append_right _ (show w ∈ tables_1 from List.mem_append_right _ (List.mem_append_right _ (List.mem_append_left _ h))), hg⟩
theorem gt_4 {w : Cond} (h : w ∈ tables_1_4) (hg : goodWord w = true) : w ∈ gT := List.mem_filter.mpr ⟨List.mem_append_right _ (show w ∈ tables_1 from List.mem_append_right _ (List.mem_append_right _ (List.mem_append_right _ (List.mem_append_left _ h)))), hg⟩
theorem gt_5 {w : Cond} (h : w ∈ tables_1_5) (hg : goodWord w = true) : w ∈ gT := List.mem_filter.mpr ⟨List.mem_append_right _ (show w ∈ tables_1 from List.mem_append_right _ (List.mem_append_right _ (List.mem_append_right _ (List.mem_append_right _ (List.mem_append_left _ h))))), hg⟩
theorem gt_6 {w : Cond} (h : w ∈ tables_1_6) (hg : goodWord w = true) : w ∈ gT := List.mem_filter.mpr ⟨List.mem_append_right _ (show w ∈ tables_1 from List.mem_append_right _ (List.mem_append_right _ (List.mem_append_right _ (List.mem_append_right _ (List.mem_append_right _ (List.mem_append_left _ h)))))), hg⟩
theorem gt_7 {w : Cond} (h : w ∈ tables_1_7) (hg : goodWord w = true) : w ∈ gT := List.mem_filter.mpr ⟨List.mem_append_right _ (show w ∈ tables_1 from List.mem_append_right _ (List.mem_append_right _ (List.mem_append_right _ (List.mem_append_right _ (List.mem_append_right _ (List.mem_append_right _ (List.mem_append_left _ h))))))), hg⟩
theorem gt_8 {w : Cond} (h : w ∈ tables_1_8) (hg : goodWord w = true) : w ∈ gT := List.mem_filter.mpr ⟨List.mem_append_right _ (show w ∈ tables_1 from List.mem_append_right _ (List.mem_append_right _ (List.mem_append_right _ (List.mem_append_right _ (List.mem_append_right _ (List.mem_append_right _ (List.mem_append_right _ (h)))))))), hg⟩
set_option maxRecDepth 20000 in
theorem cw_0 : fCO 0 ∈ gT := gt_2 (List.mem_of_getElem? (i := 38) rfl) rfl
set_option maxRecDepth 20000 in
theorem cw_1 : fCO 1 ∈ gT := gt_4 (List.mem_of_getElem? (i := 22) rfl) rfl
set_option maxRecDepth 20000 in
theorem cw_2 : fCO 2 ∈ gT := gt_5 (List.mem_of_getElem? (i := 133) rfl) rfl
set_option maxRecDepth 20000 in
theorem cw_3 : fCO 3 ∈ gT := gt_5 (List.mem_of_getElem? (i := 141) rfl) rfl
set_option maxRecDepth 20000 in
theorem cw_4 : fCO 4 ∈ gT := gt_5 (List.mem_of_getElem? (i := 219) rfl) rfl
set_option maxRecDepth 20000 in
theorem cw_5 : fCO 5 ∈ gT := gt_1 (List.mem_of_getElem? (i := 88) rfl) rfl
set_option maxRecDepth 20000 in
theorem cw_6 : fCO 6 ∈ gT := gt_2 (List.mem_of_getElem? (i := 147) rfl) rfl
set_option maxRecDepth 20000 in
theorem cw_7 : fCO 7 ∈ gT := gt_3 (List.mem_of_getElem? (i := 238) rfl) rfl
set_option maxRecDepth 20000 in
theorem cw_8 : fCO 8 ∈ gT := gt_4 (List.mem_of_getElem? (i := 13) rfl) rfl
set_option maxRecDepth 20000 in
theorem cw_9 : fCO 9 ∈ gT := gt_4 (List.mem_of_getElem? (i := 98) rfl) rfl
set_option maxRecDepth 20000 in
theorem cw_10 : fCO 10 ∈ gT := gt_4 (List.mem_of_getElem? (i := 101) rfl) rfl
set_option maxRecDepth 20000 in
theorem cw_11 : fCO 11 ∈ gT := gt_4 (List.mem_of_getElem? (i := 104) rfl) rfl
set_option maxRecDepth 20000 in
theorem cw_12 : fCO 12 ∈ gT := gt_1 (List.mem_of_getElem? (i := 176) rfl) rfl
set_option maxRecDepth 20000 in
theorem cw_13 : fCO 13 ∈ gT := gt_4 (List.mem_of_getElem? (i := 18) rfl) rfl
set_option maxRecDepth 20000 in
theorem cw_14 : fCO 14 ∈ gT := gt_4 (List.mem_of_getElem? (i := 56) rfl) rfl
set_option maxRecDepth 20000 in
theorem cw_15 : fCO 15 ∈ gT := gt_4 (List.mem_of_getElem? (i := 61) rfl) rfl
set_option maxRecDepth 20000 in
theorem cw_16 : fCO 16 ∈ gT := gt_4 (List.mem_of_getElem? (i := 232) rfl) rfl
set_option maxRecDepth 20000 in
theorem cw_17 : fCO 17 ∈ gT := gt_2 (List.mem_of_getElem? (i := 75) rfl) rfl
set_option maxRecDepth 20000 in
theorem cw_18 : fCO 18 ∈ gT := gt_5 (List.mem_of_getElem? (i := 45) rfl) rfl
set_option maxRecDepth 20000 in
theorem cw_19 : fCO 19 ∈ gT := gt_5 (List.mem_of_getElem? (i := 51) rfl) rfl
set_option maxRecDepth 20000 in
theorem cw_20 : fCO 20 ∈ gT := gt_5 (List.mem_of_getElem? (i := 56) rfl) rfl
set_option maxRecDepth 20000 in
theorem cw_21 : fCO 21 ∈ gT := gt_5 (List.mem_of_getElem? (i := 60) rfl) rfl
set_option maxRecDepth 20000 in
theorem cw_22 : fCO 22 ∈ gT := gt_5 (List.mem_of_getElem? (i := 65) rfl) rfl
set_option maxRecDepth 20000 in
theorem cw_23 : fCO 23 ∈ gT := gt_1 (List.mem_of_getElem? (i := 213) rfl) rfl
set_option maxRecDepth 20000 in
theorem cw_24 : fCO 24 ∈ gT := gt_4 (List.mem_of_getElem? (i := 35) rfl) rfl
set_option maxRecDepth 20000 in
theorem cw_25 : fCO 25 ∈ gT := gt_4 (List.mem_of_getElem? (i := 41) rfl) rfl
set_option maxRecDepth 20000 in
theorem cw_26 : fCO 26 ∈ gT := gt_4 (List.mem_of_getElem? (i := 49) rfl) rfl
set_option maxRecDepth 20000 in
theorem cw_27 : fCO 27 ∈ gT := gt_1 (List.mem_of_getElem? (i := 197) rfl) rfl
set_option maxRecDepth 20000 in
theorem cw_28 : fCO 28 ∈ gT := gt_2 (List.mem_of_getElem? (i := 225) rfl) rfl
set_option maxRecDepth 20000 in
theorem cw_29 : fCO 29 ∈ gT := gt_3 (List.mem_of_getElem? (i := 103) rfl) rfl
set_option maxRecDepth 20000 in
theorem cw_30 : fCO 30 ∈ gT := gt_3 (List.mem_of_getElem? (i := 137) rfl) rfl
set_option maxRecDepth 20000 in
theorem cw_31 : fCO 31 ∈ gT := gt_3 (List.mem_of_getElem? (i := 146) rfl) rfl
set_option maxRecDepth 20000 in
theorem cw_32 : fCO 32 ∈ gT := gt_3 (List.mem_of_getElem? (i := 184) rfl) rfl
set_option maxRecDepth 20000 in
theorem cw_33 : fCO 33 ∈ gT := gt_3 (List.mem_of_getElem? (i := 190) rfl) rfl
set_option maxRecDepth 20000 in
theorem cw_34 : fCO 34 ∈ gT := gt_3 (List.mem_of_getElem? (i := 194) rfl) rfl
set_option maxRecDepth 20000 in
theorem cw_35 : fCO 35 ∈ gT := gt_3 (List.mem_of_getElem? (i := 198) rfl) rfl
set_option maxRecDepth 20000 in
theorem cw_36 : fCO 36 ∈ gT := gt_3 (List.mem_of_getElem? (i := 202) rfl) rfl
set_option maxRecDepth 20000 in
theorem cw_37 : fCO 37 ∈ gT := gt_3 (List.mem_of_getElem? (i := 206) rfl) rfl
set_option maxRecDepth 20000 in
theorem cw_38 : fCO 38 ∈ gT := gt_3 (List.mem_of_getElem? (i := 210) rfl) rfl
set_option maxRecDepth 20000 in
theorem cw_39 : fCO 39 ∈ gT := gt_3 (List.mem_of_getElem? (i := 214) rfl) rfl
set_option maxRecDepth 20000 in
theorem cw_40 : fCO 40 ∈ gT := gt_3 (List.mem_of_getElem? (i := 218) rfl) rfl
set_option maxRecDepth 20000 in
theorem cw_41 : fCO 41 ∈ gT := gt_3 (List.mem_of_getElem? (i := 222) rfl) rfl
set_option maxRecDepth 20000 in
theorem cw_42 : fCO 42 ∈ gT := gt_2 (List.mem_of_getElem? (i := 28) rfl) rfl
set_option maxRecDepth 20000 in
theorem cw_43 : fCO 43 ∈ gT := gt_4 (List.mem_of_getElem? (i := 26) rfl) rfl
set_option maxRecDepth 20000 in
theorem cw_44 : fCO 44 ∈ gT := gt_4 (List.mem_of_getElem? (i := 148) rfl) rfl
set_option maxRecDepth 20000 in
theorem cw_45 : fCO 45 ∈ gT := gt_4 (List.mem_of_getElem? (i := 152) rfl) rfl
set_option maxRecDepth 20000 in
theorem cw_46 : fCO 46 ∈ gT := gt_4 (List.mem_of_getElem? (i := 224) rfl) rfl
set_option maxRecDepth 20000 in
theorem cw_47 : fCO 47 ∈ gT := gt_5 (List.mem_of_getElem? (i := 215) rfl) rfl
set_option maxRecDepth 20000 in
theorem cw_48 : fCO 48 ∈ gT := gt_5 (List.mem_of_getElem? (i := 224) rfl) rfl
set_option maxRecDepth 20000 in
theorem cw_49 : fCO 49 ∈ gT := gt_1 (List.mem_of_getElem? (i := 82) rfl) rfl
set_option maxRecDepth 20000 in
theorem cw_50 : fCO 50 ∈ gT := gt_2 (List.mem_of_getElem? (i := 143) rfl) rfl
set_option maxRecDepth 20000 in
theorem cw_51 : fCO 51 ∈ gT := gt_3 (List.mem_of_getElem? (i := 156) rfl) rfl
set_option maxRecDepth 20000 in
theorem cw_52 : fCO 52 ∈ gT := gt_3 (List.mem_of_getElem? (i := 160) rfl) rfl
set_option maxRecDepth 20000 in
theorem cw_53 : fCO 53 ∈ gT := gt_4 (List.mem_of_getElem? (i := 8) rfl) rfl
set_option maxRecDepth 20000 in
theorem cw_54 : fCO 54 ∈ gT := gt_4 (List.mem_of_getElem? (i := 70) rfl) rfl
set_option maxRecDepth 20000 in
theorem cw_55 : fCO 55 ∈ gT := gt_4 (List.mem_of_getElem? (i := 82) rfl) rfl
set_option maxRecDepth 20000 in
theorem cw_56 : fCO 56 ∈ gT := gt_4 (List.mem_of_getElem? (i := 86) rfl) rfl
set_option maxRecDepth 20000 in
theorem cw_57 : fCO 57 ∈ gT := gt_4 (List.mem_of_getElem? (i := 93) rfl) rfl
set_option maxRecDepth 20000 in
theorem cw_58 : fCO 58 ∈ gT := gt_4 (List.mem_of_getElem? (i := 118) rfl) rfl
set_option maxRecDepth 20000 in
theorem cw_59 : fCO 59 ∈ gT := gt_4 (List.mem_of_getElem? (i := 131) rfl) rfl
set_option maxRecDepth 20000 in
theorem cw_60 : fCO 60 ∈ gT := gt_4 (List.mem_of_getElem? (i := 170) rfl) rfl
set_option maxRecDepth 20000 in
theorem cw_61 : fCO 61 ∈ gT := gt_2 (List.mem_of_getElem? (i := 107) rfl) rfl
set_option maxRecDepth 20000 in
theorem cw_62 : fCO 62 ∈ gT := gt_5 (List.mem_of_getElem? (i := 77) rfl) rfl
set_option maxRecDepth 20000 in
theorem cw_63 : fCO 63 ∈ gT := gt_5 (List.mem_of_getElem? (i := 82) rfl) rfl
set_option maxRecDepth 20000 in
theorem cw_64 : fCO 64 ∈ gT := gt_5 (List.mem_of_getElem? (i := 86) rfl) rfl
set_option maxRecDepth 20000 in
theorem cw_65 : fCO 65 ∈ gT := gt_5 (List.mem_of_getElem? (i := 90) rfl) rfl
set_option maxRecDepth 20000 in
theorem cw_66 : fCO 66 ∈ gT := gt_5 (List.mem_of_getElem? (i := 95) rfl) rfl
set_option maxRecDepth 20000 in
theorem cw_67 : fCO 67 ∈ gT := gt_1 (List.mem_of_getElem? (i := 226) rfl) rfl
set_option maxRecDepth 20000 in
theorem cw_68 : fCO 68 ∈ gT := gt_2 (List.mem_of_getElem? (i := 151) rfl) rfl
set_option maxRecDepth 20000 in
theorem cw_69 : fCO 69 ∈ gT := gt_2 (List.mem_of_getElem? (i := 161) rfl) rfl
set_option maxRecDepth 20000 in
theorem cw_70 : fCO 70 ∈ gT := gt_4 (List.mem_of_getElem? (i := 74) rfl) rfl
set_option maxRecDepth 20000 in
theorem cw_71 : fCO 71 ∈ gT := gt_4 (List.mem_of_getElem? (i := 78) rfl) rfl
set_option maxRecDepth 20000 in
theorem cw_72 : fCO 72 ∈ gT := gt_4 (List.mem_of_getElem? (i := 110) rfl) rfl
set_option maxRecDepth 20000 in
theorem cw_73 : fCO 73 ∈ gT := gt_4 (List.mem_of_getElem? (i := 126) rfl) rfl
set_option maxRecDepth 20000 in
theorem cw_74 : fCO 74 ∈ gT := gt_4 (List.mem_of_getElem? (i := 143) rfl) rfl
set_option maxRecDepth 20000 in
theorem cw_75 : fCO 75 ∈ gT := gt_4 (List.mem_of_getElem? (i := 156) rfl) rfl
set_option maxRecDepth 20000 in
theorem cw_76 : fCO 76 ∈ gT := gt_4 (List.mem_of_getElem? (i := 160) rfl) rfl
set_option maxRecDepth 20000 in
theorem cw_77 : fCO 77 ∈ gT := gt_4 (List.mem_of_getElem? (i := 166) rfl) rfl
set_option maxRecDepth 20000 in
theorem cw_78 : fCO 78 ∈ gT := gt_4 (List.mem_of_getElem? (i := 180) rfl) rfl
set_option maxRecDepth 20000 in
theorem cw_79 : fCO 79 ∈ gT := gt_4 (List.mem_of_getElem? (i := 184) rfl) rfl
set_option maxRecDepth 20000 in
theorem cw_80 : fCO 80 ∈ gT := gt_4 (List.mem_of_getElem? (i := 192) rfl) rfl
set_option maxRecDepth 20000 in
theorem cw_81 : fCO 81 ∈ gT := gt_4 (List.mem_of_getElem? (i := 201) rfl) rfl
set_option maxRecDepth 20000 in
theorem cw_82 : fCO 82 ∈ gT := gt_4 (List.mem_of_getElem? (i := 210) rfl) rfl
set_option maxRecDepth 20000 in
theorem cw_83 : fCO 83 ∈ gT := gt_4 (List.mem_of_getElem? (i := 214) rfl) rfl
set_option maxRecDepth 20000 in
theorem cw_84 : fCO 84 ∈ gT := gt_5 (List.mem_of_getElem? (i := 3) rfl) rfl
set_option maxRecDepth 20000 in
theorem cw_85 : fCO 85 ∈ gT := gt_5 (List.mem_of_getElem? (i := 41) rfl) rfl
set_option maxRecDepth 20000 in
theorem cw_86 : fCO 86 ∈ gT := gt_5 (List.mem_of_getElem? (i := 233) rfl) rfl
set_option maxRecDepth 20000 in
theorem cw_87 : fCO 87 ∈ gT := gt_1 (List.mem_of_getElem? (i := 39) rfl) rfl
set_option maxRecDepth 20000 in
theorem cw_88 : fCO 88 ∈ gT := gt_2 (List.mem_of_getElem? (i := 217) rfl) rfl
set_option maxRecDepth 20000 in
theorem cw_89 : fCO 89 ∈ gT := gt_2 (List.mem_of_getElem? (i := 230) rfl) rfl
set_option maxRecDepth 20000 in
theorem cw_90 : fCO 90 ∈ gT := gt_2 (List.mem_of_getElem? (i := 234) rfl) rfl
set_option maxRecDepth 20000 in
theorem cw_91 : fCO 91 ∈ gT := gt_2 (List.mem_of_getElem? (i := 237) rfl) rfl
set_option maxRecDepth 20000 in
theorem cw_92 : fCO 92 ∈ gT := gt_3 (List.mem_of_getElem? (i := 0) rfl) rfl
set_option maxRecDepth 20000 in
theorem cw_93 : fCO 93 ∈ gT := gt_3 (List.mem_of_getElem? (i := 4) rfl) rfl
set_option maxRecDepth 20000 in
theorem cw_94 : fCO 94 ∈ gT := gt_3 (List.mem_of_getElem? (i := 8) rfl) rfl
set_option maxRecDepth 20000 in
theorem cw_95 : fCO 95 ∈ gT := gt_3 (List.mem_of_getElem? (i := 12) rfl) rfl
set_option maxRecDepth 20000 in
theorem cw_96 : fCO 96 ∈ gT := gt_3 (List.mem_of_getElem? (i := 108) rfl) rfl
set_option maxRecDepth 20000 in
theorem cw_97 : fCO 97 ∈ gT := gt_3 (List.mem_of_getElem? (i := 133) rfl) rfl
set_option maxRecDepth 20000 in
theorem cw_98 : fCO 98 ∈ gT := gt_3 (List.mem_of_getElem? (i := 141) rfl) rfl
set_option maxRecDepth 20000 in
theorem cw_99 : fCO 99 ∈ gT := gt_3 (List.mem_of_getElem? (i := 150) rfl) rfl
set_option maxRecDepth 20000 in
theorem cw_100 : fCO 100 ∈ gT := gt_3 (List.mem_of_getElem? (i := 165) rfl) rfl
set_option maxRecDepth 20000 in
theorem cw_101 : fCO 101 ∈ gT := gt_3 (List.mem_of_getElem? (i := 171) rfl) rfl
set_option maxRecDepth 20000 in
theorem cw_102 : fCO 102 ∈ gT := gt_3 (List.mem_of_getElem? (i := 175) rfl) rfl
set_option maxRecDepth 20000 in
theorem cw_103 : fCO 103 ∈ gT := gt_3 (List.mem_of_getElem? (i := 179) rfl) rfl
set_option maxRecDepth 20000 in
theorem cw_104 : fCO 104 ∈ gT := gt_3 (List.mem_of_getElem? (i := 228) rfl) rfl
set_option maxRecDepth 20000 in
theorem cw_105 : fCO 105 ∈ gT := gt_3 (List.mem_of_getElem? (i := 233) rfl) rfl
set_option maxRecDepth 20000 in
theorem cw_106 : fCO 106 ∈ gT := gt_4 (List.mem_of_getElem? (i := 4) rfl) rfl
set_option maxRecDepth 20000 in
theorem cw_107 : fCO 107 ∈ gT := gt_1 (List.mem_of_getElem? (i := 31) rfl) rfl
set_option maxRecDepth 20000 in
theorem cw_108 : fCO 108 ∈ gT := gt_2 (List.mem_of_getElem? (i := 208) rfl) rfl
set_option maxRecDepth 20000 in
theorem cw_109 : fCO 109 ∈ gT := gt_2 (List.mem_of_getElem? (i := 212) rfl) rfl
set_option maxRecDepth 20000 in
theorem cw_110 : fCO 110 ∈ gT := gt_2 (List.mem_of_getElem? (i := 221) rfl) rfl
set_option maxRecDepth 20000 in
theorem cw_111 : fCO 111 ∈ gT := gt_4 (List.mem_of_getElem? (i := 31) rfl) rfl
set_option maxRecDepth 20000 in
theorem cw_112 : fCO 112 ∈ gT := gt_4 (List.mem_of_getElem? (i := 66) rfl) rfl
set_option maxRecDepth 20000 in
theorem cw_113 : fCO 113 ∈ gT := gt_4 (List.mem_of_getElem? (i := 114) rfl) rfl
set_option maxRecDepth 20000 in
theorem cw_114 : fCO 114 ∈ gT := gt_4 (List.mem_of_getElem? (i := 122) rfl) rfl
set_option maxRecDepth 20000 in
theorem cw_115 : fCO 115 ∈ gT := gt_4 (List.mem_of_getElem? (i := 139) rfl) rfl
set_option maxRecDepth 20000 in
theorem cw_116 : fCO 116 ∈ gT := gt_4 (List.mem_of_getElem? (i := 176) rfl) rfl
set_option maxRecDepth 20000 in
theorem cw_117 : fCO 117 ∈ gT := gt_4 (List.mem_of_getElem? (i := 188) rfl) rfl
set_option maxRecDepth 20000 in
theorem cw_118 : fCO 118 ∈ gT := gt_4 (List.mem_of_getElem? (i := 197) rfl) rfl
set_option maxRecDepth 20000 in
theorem cw_119 : fCO 119 ∈ gT := gt_4 (List.mem_of_getElem? (i := 206) rfl) rfl
set_option maxRecDepth 20000 in
theorem cw_120 : fCO 120 ∈ gT := gt_4 (List.mem_of_getElem? (i := 220) rfl) rfl
set_option maxRecDepth 20000 in
theorem cw_121 : fCO 121 ∈ gT := gt_4 (List.mem_of_getElem? (i := 228) rfl) rfl
set_option maxRecDepth 20000 in
theorem cw_122 : fCO 122 ∈ gT := gt_5 (List.mem_of_getElem? (i := 7) rfl) rfl
set_option maxRecDepth 20000 in
theorem cw_123 : fCO 123 ∈ gT := gt_5 (List.mem_of_getElem? (i := 11) rfl) rfl
set_option maxRecDepth 20000 in
theorem cw_124 : fCO 124 ∈ gT := gt_5 (List.mem_of_getElem? (i := 15) rfl) rfl
set_option maxRecDepth 20000 in
theorem cw_125 : fCO 125 ∈ gT := gt_5 (List.mem_of_getElem? (i := 20) rfl) rfl
set_option maxRecDepth 20000 in
theorem cw_126 : fCO 126 ∈ gT := gt_5 (List.mem_of_getElem? (i := 25) rfl) rfl
set_option maxRecDepth 20000 in
theorem cw_127 : fCO 127 ∈ gT := gt_5 (List.mem_of_getElem? (i := 29) rfl) rfl
set_option maxRecDepth 20000 in
theorem cw_128 : fCO 128 ∈ gT := gt_5 (List.mem_of_getElem? (i := 33) rfl) rfl
set_option maxRecDepth 20000 in
theorem cw_129 : fCO 129 ∈ gT := gt_5 (List.mem_of_getElem? (i := 37) rfl) rfl
set_option maxRecDepth 20000 in
theorem cw_130 : fCO 130 ∈ gT := gt_5 (List.mem_of_getElem? (i := 69) rfl) rfl
set_option maxRecDepth 20000 in
theorem cw_131 : fCO 131 ∈ gT := gt_5 (List.mem_of_getElem? (i := 73) rfl) rfl
set_option maxRecDepth 20000 in
theorem cw_132 : fCO 132 ∈ gT := gt_5 (List.mem_of_getElem? (i := 99) rfl) rfl
set_option maxRecDepth 20000 in
theorem cw_133 : fCO 133 ∈ gT := gt_5 (List.mem_of_getElem? (i := 103) rfl) rfl
set_option maxRecDepth 20000 in
theorem cw_134 : fCO 134 ∈ gT := gt_5 (List.mem_of_getElem? (i := 107) rfl) rfl
set_option maxRecDepth 20000 in
theorem cw_135 : fCO 135 ∈ gT := gt_5 (List.mem_of_getElem? (i := 113) rfl) rfl
set_option maxRecDepth 20000 in
theorem cw_136 : fCO 136 ∈ gT := gt_5 (List.mem_of_getElem? (i := 117) rfl) rfl
set_option maxRecDepth 20000 in
theorem cw_137 : fCO 137 ∈ gT := gt_5 (List.mem_of_getElem? (i := 121) rfl) rfl
set_option maxRecDepth 20000 in
theorem cw_138 : fCO 138 ∈ gT := gt_5 (List.mem_of_getElem? (i := 125) rfl) rfl
set_option maxRecDepth 20000 in
theorem cw_139 : fCO 139 ∈ gT := gt_5 (List.mem_of_getElem? (i := 129) rfl) rfl
set_option maxRecDepth 20000 in
theorem cw_140 : fCO 140 ∈ gT := gt_5 (List.mem_of_getElem? (i := 137) rfl) rfl
set_option maxRecDepth 20000 in
theorem cw_141 : fCO 141 ∈ gT := gt_5 (List.mem_of_getElem? (i := 146) rfl) rfl
set_option maxRecDepth 20000 in
theorem cw_142 : fCO 142 ∈ gT := gt_5 (List.mem_of_getElem? (i := 150) rfl) rfl
set_option maxRecDepth 20000 in
theorem cw_143 : fCO 143 ∈ gT := gt_5 (List.mem_of_getElem? (i := 156) rfl) rfl
set_option maxRecDepth 20000 in
theorem cw_144 : fCO 144 ∈ gT := gt_5 (List.mem_of_getElem? (i := 160) rfl) rfl
set_option maxRecDepth 20000 in
theorem cw_145 : fCO 145 ∈ gT := gt_5 (List.mem_of_getElem? (i := 164) rfl) rfl
set_option maxRecDepth 20000 in
theorem cw_146 : fCO 146 ∈ gT := gt_5 (List.mem_of_getElem? (i := 174) rfl) rfl
set_option maxRecDepth 20000 in
theorem cw_147 : fCO 147 ∈ gT := gt_5 (List.mem_of_getElem? (i := 178) rfl) rfl
set_option maxRecDepth 20000 in
theorem cw_148 : fCO 148 ∈ gT := gt_5 (List.mem_of_getElem? (i := 182) rfl) rfl
set_option maxRecDepth 20000 in
theorem cw_149 : fCO 149 ∈ gT := gt_5 (List.mem_of_getElem? (i := 187) rfl) rfl
set_option maxRecDepth 20000 in
theorem cw_150 : fCO 150 ∈ gT := gt_5 (List.mem_of_getElem? (i := 191) rfl) rfl
set_option maxRecDepth 20000 in
theorem cw_151 : fCO 151 ∈ gT := gt_5 (List.mem_of_getElem? (i := 195) rfl) rfl
set_option maxRecDepth 20000 in
theorem cw_152 : fCO 152 ∈ gT := gt_5 (List.mem_of_getElem? (i := 199) rfl) rfl
set_option maxRecDepth 20000 in
theorem cw_153 : fCO 153 ∈ gT := gt_5 (List.mem_of_getElem? (i := 203) rfl) rfl
set_option maxRecDepth 20000 in
theorem cw_154 : fCO 154 ∈ gT := gt_5 (List.mem_of_getElem? (i := 211) rfl) rfl
set_option maxRecDepth 20000 in
theorem cw_155 : fCO 155 ∈ gT := gt_5 (List.mem_of_getElem? (i := 228) rfl) rfl
set_option maxRecDepth 20000 in
theorem cw_156 : fCO 156 ∈ gT := gt_6 (List.mem_of_getElem? (i := 1) rfl) rfl
set_option maxRecDepth 20000 in
theorem cw_157 : fCO 157 ∈ gT := gt_6 (List.mem_of_getElem? (i := 4) rfl) rfl
set_option maxRecDepth 20000 in
theorem cw_158 : fCO 158 ∈ gT := gt_6 (List.mem_of_getElem? (i := 72) rfl) rfl
set_option maxRecDepth 20000 in
theorem cw_159 : fCO 159 ∈ gT := gt_6 (List.mem_of_getElem? (i := 77) rfl) rfl
set_option maxRecDepth 20000 in
theorem cw_160 : fCO 160 ∈ gT := gt_6 (List.mem_of_getElem? (i := 81) rfl) rfl
set_option maxRecDepth 20000 in
theorem cw_161 : fCO 161 ∈ gT := gt_6 (List.mem_of_getElem? (i := 86) rfl) rfl
set_option maxRecDepth 20000 in
theorem cw_162 : fCO 162 ∈ gT := gt_6 (List.mem_of_getElem? (i := 90) rfl) rfl
set_option maxRecDepth 20000 in
theorem cw_163 : fCO 163 ∈ gT := gt_6 (List.mem_of_getElem? (i := 124) rfl) rfl
set_option maxRecDepth 20000 in
theorem cw_164 : fCO 164 ∈ gT := gt_6 (List.mem_of_getElem? (i := 128) rfl) rfl
set_option maxRecDepth 20000 in
theorem cw_165 : fCO 165 ∈ gT := gt_6 (List.mem_of_getElem? (i := 132) rfl) rfl
set_option maxRecDepth 20000 in
theorem cw_166 : fCO 166 ∈ gT := gt_6 (List.mem_of_getElem? (i := 136) rfl) rfl
set_option maxRecDepth 20000 in
theorem cw_167 : fCO 167 ∈ gT := gt_6 (List.mem_of_getElem? (i := 140) rfl) rfl
set_option maxRecDepth 20000 in
theorem cw_168 : fCO 168 ∈ gT := gt_6 (List.mem_of_getElem? (i := 144) rfl) rfl
set_option maxRecDepth 20000 in
theorem cw_169 : fCO 169 ∈ gT := gt_6 (List.mem_of_getElem? (i := 148) rfl) rfl
set_option maxRecDepth 20000 in
theorem cw_170 : fCO 170 ∈ gT := gt_7 (List.mem_of_getElem? (i := 18) rfl) rfl
set_option maxRecDepth 20000 in
theorem cw_171 : fCO 171 ∈ gT := gt_7 (List.mem_of_getElem? (i := 22) rfl) rfl
set_option maxRecDepth 20000 in
theorem cw_172 : fCO 172 ∈ gT := gt_7 (List.mem_of_getElem? (i := 25) rfl) rfl
set_option maxRecDepth 20000 in
theorem cw_173 : fCO 173 ∈ gT := gt_7 (List.mem_of_getElem? (i := 29) rfl) rfl
set_option maxRecDepth 20000 in
theorem cw_174 : fCO 174 ∈ gT := gt_7 (List.mem_of_getElem? (i := 32) rfl) rfl
set_option maxRecDepth 20000 in
theorem cw_175 : fCO 175 ∈ gT := gt_7 (List.mem_of_getElem? (i := 37) rfl) rfl
set_option maxRecDepth 20000 in
theorem cw_176 : fCO 176 ∈ gT := gt_7 (List.mem_of_getElem? (i := 41) rfl) rfl
set_option maxRecDepth 20000 in
theorem cw_177 : fCO 177 ∈ gT := gt_7 (List.mem_of_getElem? (i := 45) rfl) rfl
set_option maxRecDepth 20000 in
theorem cw_178 : fCO 178 ∈ gT := gt_7 (List.mem_of_getElem? (i := 49) rfl) rfl
set_option maxRecDepth 20000 in
theorem cw_179 : fCO 179 ∈ gT := gt_7 (List.mem_of_getElem? (i := 53) rfl) rfl
set_option maxRecDepth 20000 in
theorem cw_180 : fCO 180 ∈ gT := gt_7 (List.mem_of_getElem? (i := 57) rfl) rfl
set_option maxRecDepth 20000 in
theorem cw_181 : fCO 181 ∈ gT := gt_7 (List.mem_of_getElem? (i := 61) rfl) rfl
set_option maxRecDepth 20000 in
theorem cw_182 : fCO 182 ∈ gT := gt_7 (List.mem_of_getElem? (i := 65) rfl) rfl
set_option maxRecDepth 20000 in
theorem cw_183 : fCO 183 ∈ gT := gt_7 (List.mem_of_getElem? (i := 69) rfl) rfl
set_option maxRecDepth 20000 in
theorem cw_184 : fCO 184 ∈ gT := gt_7 (List.mem_of_getElem? (i := 73) rfl) rfl
set_option maxRecDepth 20000 in
theorem cw_185 : fCO 185 ∈ gT := gt_7 (List.mem_of_getElem? (i := 77) rfl) rfl
set_option maxRecDepth 20000 in
theorem cw_186 : fCO 186 ∈ gT := gt_7 (List.mem_of_getElem? (i := 81) rfl) rfl
set_option maxRecDepth 20000 in
theorem cw_187 : fCO 187 ∈ gT := gt_7 (List.mem_of_getElem? (i := 85) rfl) rfl
set_option maxRecDepth 20000 in
theorem cw_188 : fCO 188 ∈ gT := gt_7 (List.mem_of_getElem? (i := 89) rfl) rfl
set_option maxRecDepth 20000 in
theorem cw_189 : fCO 189 ∈ gT := gt_7 (List.mem_of_getElem? (i := 93) rfl) rfl
set_option maxRecDepth 20000 in
theorem cw_190 : fCO 190 ∈ gT := gt_7 (List.mem_of_getElem? (i := 97) rfl) rfl
set_option maxRecDepth 20000 in
theorem cw_191 : fCO 191 ∈ gT := gt_7 (List.mem_of_getElem? (i := 101) rfl) rfl
set_option maxRecDepth 20000 in
theorem cw_192 : fCO 192 ∈ gT := gt_7 (List.mem_of_getElem? (i := 105) rfl) rfl
set_option maxRecDepth 20000 in
theorem cw_193 : fCO 193 ∈ gT := gt_7 (List.mem_of_getElem? (i := 109) rfl) rfl
set_option maxRecDepth 20000 in
theorem cw_194 : fCO 194 ∈ gT := gt_7 (List.mem_of_getElem? (i := 113) rfl) rfl
set_option maxRecDepth 20000 in
theorem cw_195 : fCO 195 ∈ gT := gt_7 (List.mem_of_getElem? (i := 117) rfl) rfl
set_option maxRecDepth 20000 in
theorem cw_196 : fCO 196 ∈ gT := gt_7 (List.mem_of_getElem? (i := 121) rfl) rfl
set_option maxRecDepth 20000 in
theorem cw_197 : fCO 197 ∈ gT := gt_7 (List.mem_of_getElem? (i := 125) rfl) rfl
set_option maxRecDepth 20000 in
theorem cw_198 : fCO 198 ∈ gT := gt_7 (List.mem_of_getElem? (i := 129) rfl) rfl
set_option maxRecDepth 20000 in
theorem cw_199 : fCO 199 ∈ gT := gt_7 (List.mem_of_getElem? (i := 133) rfl) rfl
set_option maxRecDepth 20000 in
theorem cw_200 : fCO 200 ∈ gT := gt_7 (List.mem_of_getElem? (i := 137) rfl) rfl
set_option maxRecDepth 20000 in
theorem cw_201 : fCO 201 ∈ gT := gt_7 (List.mem_of_getElem? (i := 140) rfl) rfl
set_option maxRecDepth 20000 in
theorem cw_202 : fCO 202 ∈ gT := gt_7 (List.mem_of_getElem? (i := 144) rfl) rfl
set_option maxRecDepth 20000 in
theorem cw_203 : fCO 203 ∈ gT := gt_7 (List.mem_of_getElem? (i := 148) rfl) rfl
set_option maxRecDepth 20000 in
theorem cw_204 : fCO 204 ∈ gT := gt_7 (List.mem_of_getElem? (i := 152) rfl) rfl
set_option maxRecDepth 20000 in
theorem cw_205 : fCO 205 ∈ gT := gt_7 (List.mem_of_getElem? (i := 156) rfl) rfl
set_option maxRecDepth 20000 in
theorem cw_206 : fCO 206 ∈ gT := gt_7 (List.mem_of_getElem? (i := 160) rfl) rfl
set_option maxRecDepth 20000 in
theorem cw_207 : fCO 207 ∈ gT := gt_7 (List.mem_of_getElem? (i := 164) rfl) rfl
set_option maxRecDepth 20000 in
theorem cw_208 : fCO 208 ∈ gT := gt_7 (List.mem_of_getElem? (i := 168) rfl) rfl
set_option maxRecDepth 20000 in
theorem cw_209 : fCO 209 ∈ gT := gt_7 (List.mem_of_getElem? (i := 171) rfl) rfl
set_option maxRecDepth 20000 in
theorem cw_210 : fCO 210 ∈ gT := gt_7 (List.mem_of_getElem? (i := 175) rfl) rfl
set_option maxRecDepth 20000 in
theorem cw_211 : fCO 211 ∈ gT := gt_7 (List.mem_of_getElem? (i := 179) rfl) rfl
set_option maxRecDepth 20000 in
theorem cw_212 : fCO 212 ∈ gT := gt_7 (List.mem_of_getElem? (i := 183) rfl) rfl
set_option maxRecDepth 20000 in
theorem cw_213 : fCO 213 ∈ gT := gt_7 (List.mem_of_getElem? (i := 187) rfl) rfl
set_option maxRecDepth 20000 in
theorem cw_214 : fCO 214 ∈ gT := gt_7 (List.mem_of_getElem? (i := 191) rfl) rfl
set_option maxRecDepth 20000 in
theorem cw_215 : fCO 215 ∈ gT := gt_7 (List.mem_of_getElem? (i := 195) rfl) rfl
set_option maxRecDepth 20000 in
theorem cw_216 : fCO 216 ∈ gT := gt_7 (List.mem_of_getElem? (i := 198) rfl) rfl
set_option maxRecDepth 20000 in
theorem cw_217 : fCO 217 ∈ gT := gt_7 (List.mem_of_getElem? (i := 202) rfl) rfl
set_option maxRecDepth 20000 in
theorem cw_218 : fCO 218 ∈ gT := gt_7 (List.mem_of_getElem? (i := 206) rfl) rfl
set_option maxRecDepth 20000 in
theorem cw_219 : fCO 219 ∈ gT := gt_7 (List.mem_of_getElem? (i := 210) rfl) rfl
set_option maxRecDepth 20000 in
theorem cw_220 : fCO 220 ∈ gT := gt_7 (List.mem_of_getElem? (i := 214) rfl) rfl
set_option maxRecDepth 20000 in
theorem cw_221 : fCO 221 ∈ gT := gt_7 (List.mem_of_getElem? (i := 218) rfl) rfl
set_option maxRecDepth 20000 in
theorem cw_222 : fCO 222 ∈ gT := gt_7 (List.mem_of_getElem? (i := 222) rfl) rfl
set_option maxRecDepth 20000 in
theorem cw_223 : fCO 223 ∈ gT := gt_7 (List.mem_of_getElem? (i := 226) rfl) rfl
set_option maxRecDepth 20000 in
theorem cw_224 : fCO 224 ∈ gT := gt_7 (List.mem_of_getElem? (i := 230) rfl) rfl
set_option maxRecDepth 20000 in
theorem cw_225 : fCO 225 ∈ gT := gt_7 (List.mem_of_getElem? (i := 234) rfl) rfl
set_option maxRecDepth 20000 in
theorem cw_226 : fCO 226 ∈ gT := gt_7 (List.mem_of_getElem? (i := 238) rfl) rfl
set_option maxRecDepth 20000 in
theorem cw_227 : fCO 227 ∈ gT := gt_8 (List.mem_of_getElem? (i := 2) rfl) rfl
set_option maxRecDepth 20000 in
theorem cw_228 : fCO 228 ∈ gT := gt_8 (List.mem_of_getElem? (i := 6) rfl) rfl
set_option maxRecDepth 20000 in
theorem cw_229 : fCO 229 ∈ gT := gt_8 (List.mem_of_getElem? (i := 10) rfl) rfl
set_option maxRecDepth 20000 in
theorem cw_230 : fCO 230 ∈ gT := gt_8 (List.mem_of_getElem? (i := 14) rfl) rfl
set_option maxRecDepth 20000 in
theorem cw_231 : fCO 231 ∈ gT := gt_8 (List.mem_of_getElem? (i := 18) rfl) rfl
set_option maxRecDepth 20000 in
theorem cw_232 : fCO 232 ∈ gT := gt_8 (List.mem_of_getElem? (i := 22) rfl) rfl
set_option maxRecDepth 20000 in
theorem cw_233 : fCO 233 ∈ gT := gt_8 (List.mem_of_getElem? (i := 26) rfl) rfl
set_option maxRecDepth 20000 in
theorem cw_234 : fCO 234 ∈ gT := gt_8 (List.mem_of_getElem? (i := 30) rfl) rfl
set_option maxRecDepth 20000 in
theorem cw_235 : fCO 235 ∈ gT := gt_8 (List.mem_of_getElem? (i := 34) rfl) rfl
set_option maxRecDepth 20000 in
theorem cw_236 : fCO 236 ∈ gT := gt_8 (List.mem_of_getElem? (i := 38) rfl) rfl
set_option maxRecDepth 20000 in
theorem cw_237 : fCO 237 ∈ gT := gt_8 (List.mem_of_getElem? (i := 42) rfl) rfl
set_option maxRecDepth 20000 in
theorem cw_238 : fCO 238 ∈ gT := gt_8 (List.mem_of_getElem? (i := 46) rfl) rfl
set_option maxRecDepth 20000 in
theorem cw_239 : fCO 239 ∈ gT := gt_8 (List.mem_of_getElem? (i := 50) rfl) rfl
set_option maxRecDepth 20000 in
theorem cw_240 : fCO 240 ∈ gT := gt_8 (List.mem_of_getElem? (i := 54) rfl) rfl
set_option maxRecDepth 20000 in
theorem cw_241 : fCO 241 ∈ gT := gt_8 (List.mem_of_getElem? (i := 58) rfl) rfl
set_option maxRecDepth 20000 in
theorem cw_242 : fCO 242 ∈ gT := gt_8 (List.mem_of_getElem? (i := 62) rfl) rfl
set_option maxRecDepth 20000 in
theorem cw_243 : fCO 243 ∈ gT := gt_8 (List.mem_of_getElem? (i := 66) rfl) rfl
set_option maxRecDepth 20000 in
theorem cw_244 : fCO 244 ∈ gT := gt_8 (List.mem_of_getElem? (i := 70) rfl) rfl
set_option maxRecDepth 20000 in
theorem cw_245 : fCO 245 ∈ gT := gt_8 (List.mem_of_getElem? (i := 74) rfl) rfl
set_option maxRecDepth 20000 in
theorem cw_246 : fCO 246 ∈ gT := gt_8 (List.mem_of_getElem? (i := 77) rfl) rfl
set_option maxRecDepth 20000 in
theorem cw_247 : fCO 247 ∈ gT := gt_8 (List.mem_of_getElem? (i := 81) rfl) rfl
set_option maxRecDepth 20000 in
theorem cw_248 : fCO 248 ∈ gT := gt_8 (List.mem_of_getElem? (i := 85) rfl) rfl
set_option maxRecDepth 20000 in
theorem cw_249 : fCO 249 ∈ gT := gt_8 (List.mem_of_getElem? (i := 89) rfl) rfl
set_option maxRecDepth 20000 in
theorem cw_250 : fCO 250 ∈ gT := gt_8 (List.mem_of_getElem? (i := 93) rfl) rfl
set_option maxRecDepth 20000 in
theorem cw_251 : fCO 251 ∈ gT := gt_8 (List.mem_of_getElem? (i := 97) rfl) rfl
set_option maxRecDepth 20000 in
theorem cw_252 : fCO 252 ∈ gT := gt_8 (List.mem_of_getElem? (i := 101) rfl) rfl
set_option maxRecDepth 20000 in
theorem cw_253 : fCO 253 ∈ gT := gt_8 (List.mem_of_getElem? (i := 105) rfl) rfl
set_option maxRecDepth 20000 in
theorem cw_254 : fCO 254 ∈ gT := gt_8 (List.mem_of_getElem? (i := 109) rfl) rfl
set_option maxRecDepth 20000 in
theorem cw_255 : fCO 255 ∈ gT := gt_8 (List.mem_of_getElem? (i := 113) rfl) rfl
set_option maxRecDepth 20000 in
theorem cw_256 : fCO 256 ∈ gT := gt_8 (List.mem_of_getElem? (i := 117) rfl) rfl
set_option maxRecDepth 20000 in
theorem cw_257 : fCO 257 ∈ gT := gt_8 (List.mem_of_getElem? (i := 121) rfl) rfl
set_option maxRecDepth 20000 in
theorem cw_258 : fCO 258 ∈ gT := gt_8 (List.mem_of_getElem? (i := 125) rfl) rfl
set_option maxRecDepth 20000 in
theorem cw_259 : fCO 259 ∈ gT := gt_8 (List.mem_of_getElem? (i := 129) rfl) rfl
set_option maxRecDepth 20000 in
theorem cw_260 : fCO 260 ∈ gT := gt_8 (List.mem_of_getElem? (i := 133) rfl) rfl
set_option maxRecDepth 20000 in
theorem cw_261 : fCO 261 ∈ gT := gt_8 (List.mem_of_getElem? (i := 137) rfl) rfl
set_option maxRecDepth 20000 in
theorem cw_262 : fCO 262 ∈ gT := gt_8 (List.mem_of_getElem? (i := 141) rfl) rfl
set_option maxRecDepth 20000 in
theorem cw_263 : fCO 263 ∈ gT := gt_8 (List.mem_of_getElem? (i := 145) rfl) rfl
set_option maxRecDepth 20000 in
theorem cw_264 : fCO 264 ∈ gT := gt_8 (List.mem_of_getElem? (i := 149) rfl) rfl
set_option maxRecDepth 20000 in
theorem cw_265 : fCO 265 ∈ gT := gt_8 (List.mem_of_getElem? (i := 154) rfl) rfl
set_option maxRecDepth 20000 in
theorem cw_266 : fCO 266 ∈ gT := gt_8 (List.mem_of_getElem? (i := 157) rfl) rfl
set_option maxRecDepth 20000 in
theorem cw_267 : fCO 267 ∈ gT := gt_8 (List.mem_of_getElem? (i := 161) rfl) rfl
set_option maxRecDepth 20000 in
theorem cw_268 : fCO 268 ∈ gT := gt_8 (List.mem_of_getElem? (i := 165) rfl) rfl
set_option maxRecDepth 20000 in
theorem cw_269 : fCO 269 ∈ gT := gt_8 (List.mem_of_getElem? (i := 169) rfl) rfl
set_option maxRecDepth 20000 in
theorem cw_270 : fCO 270 ∈ gT := gt_8 (List.mem_of_getElem? (i := 177) rfl) rfl
set_option maxRecDepth 20000 in
theorem cw_271 : fCO 271 ∈ gT := gt_8 (List.mem_of_getElem? (i := 181) rfl) rfl
set_option maxRecDepth 20000 in
theorem cw_272 : fCO 272 ∈ gT := gt_8 (List.mem_of_getElem? (i := 185) rfl) rfl
set_option maxRecDepth 20000 in
theorem cw_273 : fCO 273 ∈ gT := gt_3 (List.mem_of_getElem? (i := 17) rfl) rfl
set_option maxRecDepth 20000 in
theorem cw_274 : fCO 274 ∈ gT := gt_3 (List.mem_of_getElem? (i := 21) rfl) rfl
set_option maxRecDepth 20000 in
theorem cw_275 : fCO 275 ∈ gT := gt_3 (List.mem_of_getElem? (i := 25) rfl) rfl
set_option maxRecDepth 20000 in
theorem cw_276 : fCO 276 ∈ gT := gt_3 (List.mem_of_getElem? (i := 31) rfl) rfl
set_option maxRecDepth 20000 in
theorem cw_277 : fCO 277 ∈ gT := gt_3 (List.mem_of_getElem? (i := 35) rfl) rfl
set_option maxRecDepth 20000 in
theorem cw_278 : fCO 278 ∈ gT := gt_3 (List.mem_of_getElem? (i := 113) rfl) rfl
set_option maxRecDepth 20000 in
theorem cw_279 : fCO 279 ∈ gT := gt_3 (List.mem_of_getElem? (i := 119) rfl) rfl
set_option maxRecDepth 20000 in
theorem cw_280 : fCO 280 ∈ gT := gt_3 (List.mem_of_getElem? (i := 38) rfl) rfl
set_option maxRecDepth 20000 in
theorem cw_281 : fCO 281 ∈ gT := gt_3 (List.mem_of_getElem? (i := 41) rfl) rfl
set_option maxRecDepth 20000 in
theorem cw_282 : fCO 282 ∈ gT := gt_3 (List.mem_of_getElem? (i := 50) rfl) rfl
set_option maxRecDepth 20000 in
theorem cw_283 : fCO 283 ∈ gT := gt_3 (List.mem_of_getElem? (i := 116) rfl) rfl
set_option maxRecDepth 20000 in
theorem cw_284 : fCO 284 ∈ gT := gt_2 (List.mem_of_getElem? (i := 157) rfl) rfl
set_option maxRecDepth 20000 in
theorem cw_285 : fCO 285 ∈ gT := gt_5 (List.mem_of_getElem? (i := 167) rfl) rfl
set_option maxRecDepth 20000 in
theorem cw_286 : fCO 286 ∈ gT := gt_3 (List.mem_of_getElem? (i := 44) rfl) rfl
set_option maxRecDepth 20000 in
theorem cw_287 : fCO 287 ∈ gT := gt_3 (List.mem_of_getElem? (i := 47) rfl) rfl
set_option maxRecDepth 20000 in
theorem cw_288 : fCO 288 ∈ gT := gt_4 (List.mem_of_getElem? (i := 135) rfl) rfl
set_option maxRecDepth 20000 in
theorem cw_289 : fCO 289 ∈ gT := gt_3 (List.mem_of_getElem? (i := 122) rfl) rfl
def coL_0 : List Nat := [0, 1, 2, 3, 4, 5, 6, 7, 8, 9, 10, 11, 12, 13, 14, 15, 16, 17, 18, 19, 20, 21, 22, 23]
theorem coK_0 : ∀ j ∈ coL_0, fCO j ∈ gT := List.forall_mem_cons.mpr ⟨cw_0, List.forall_mem_cons.mpr ⟨cw_1, List.forall_mem_cons.mpr ⟨cw_2, List.forall_mem_cons.mpr ⟨cw_3, List.forall_mem_cons.mpr ⟨cw_4, List.forall_mem_cons.mpr ⟨cw_5, List.forall_mem_cons.mpr ⟨cw_6, List.forall_mem_cons.mpr ⟨cw_7, List.forall_mem_cons.mpr ⟨cw_8, List.forall_mem_cons.mpr ⟨cw_9, List.forall_mem_cons.mpr ⟨cw_10, List.forall_mem_cons.mpr ⟨cw_11, List.forall_mem_cons.mpr ⟨cw_12, List.forall_mem_cons.mpr ⟨cw_13, List.forall_mem_cons.mpr ⟨cw_14, List.forall_mem_cons.mpr ⟨cw_15, List.forall_mem_cons.mpr ⟨cw_16, List.forall_mem_cons.mpr ⟨cw_17, List.forall_mem_cons.mpr ⟨cw_18, List.forall_mem_cons.mpr ⟨cw_19, List.forall_mem_cons.mpr ⟨cw_20, List.forall_mem_cons.mpr ⟨cw_21, List.forall_mem_cons.mpr ⟨cw_22, List.forall_mem_cons.mpr ⟨cw_23, fun _ h => absurd h List.not_mem_nil⟩⟩⟩⟩⟩⟩⟩⟩⟩⟩⟩⟩⟩⟩⟩⟩⟩⟩⟩⟩⟩⟩⟩⟩
def coL_1 : List Nat := [24, 25, 26, 27, 28, 29, 30, 31, 32, 33, 34, 35, 36, 37, 38, 39, 40, 41, 42, 43, 44, 45, 46, 47]
theorem coK_1 : ∀ j ∈ coL_1, fCO j ∈ gT := List.forall_mem_cons.mpr ⟨cw_24, List.forall_mem_cons.mpr ⟨cw_25, List.forall_mem_cons.mpr ⟨cw_26, List.forall_mem_cons.mpr ⟨cw_27, List.forall_mem_cons.mpr ⟨cw_28, List.forall_mem_cons.mpr ⟨cw_29, List.forall_mem_cons.mpr ⟨cw_30, List.forall_mem_cons.mpr ⟨cw_31, List.forall_mem_cons.mpr ⟨cw_32, List.forall_mem_cons.mpr ⟨cw_33, List.forall_mem_cons.mpr ⟨cw_34, List.forall_mem_cons.mpr ⟨cw_35, List.forall_mem_cons.mpr ⟨cw_36, List.forall_mem_cons.mpr ⟨cw_37, List.forall_mem_cons.mpr ⟨cw_38, List.forall_mem_cons.mpr ⟨cw_39, List.forall_mem_cons.mpr ⟨cw_40, List.forall_mem_cons.mpr ⟨cw_41, List.forall_mem_cons.mpr ⟨cw_42, List.forall_mem_cons.mpr ⟨cw_43, List.forall_mem_cons.mpr ⟨cw_44, List.forall_mem_cons.mpr ⟨cw_45, List.forall_mem_cons.mpr ⟨cw_46, List.forall_mem_cons.mpr ⟨cw_47, fun _ h => absurd h List.not_mem_nil⟩⟩⟩⟩⟩⟩⟩⟩⟩⟩⟩⟩⟩⟩⟩⟩⟩⟩⟩⟩⟩⟩⟩⟩
def coL_2 : List Nat := [48, 49, 50, 51, 52, 53, 54, 55, 56, 57, 58, 59, 60, 61, 62, 63, 64, 65, 66, 67, 68, 69, 70, 71]
theorem coK_2 : ∀ j ∈ coL_2, fCO j ∈ gT := List.forall_mem_cons.mpr ⟨cw_48, List.forall_mem_cons.mpr ⟨cw_49, List.forall_mem_cons.mpr ⟨cw_50, List.forall_mem_cons.mpr ⟨cw_51, List.forall_mem_cons.mpr ⟨cw_52, List.forall_mem_cons.mpr ⟨cw_53, List.forall_mem_cons.mpr ⟨cw_54, List.forall_mem_cons.mpr ⟨cw_55, List.forall_mem_cons.mpr ⟨cw_56, List.forall_mem_cons.mpr ⟨cw_57, List.forall_mem_cons.mpr ⟨cw_58, List.forall_mem_cons.mpr ⟨cw_59, List.forall_mem_cons.mpr ⟨cw_60, List.forall_mem_cons.mpr ⟨cw_61, List.forall_mem_cons.mpr ⟨cw_62, List.forall_mem_cons.mpr ⟨cw_63, List.forall_mem_cons.mpr ⟨cw_64, List.forall_mem_cons.mpr ⟨cw_65, List.forall_mem_cons.mpr ⟨cw_66, List.forall_mem_cons.mpr ⟨cw_67, List.forall_mem_cons.mpr ⟨cw_68, List.forall_mem_cons.mpr ⟨cw_69, List.forall_mem_cons.mpr ⟨cw_70, List.forall_mem_cons.mpr ⟨cw_71, fun _ h => absurd h List.not_mem_nil⟩⟩⟩⟩⟩⟩⟩⟩⟩⟩⟩⟩⟩⟩⟩⟩⟩⟩⟩⟩⟩⟩⟩⟩
def coL_3 : List Nat := [72, 73, 74, 75, 76, 77, 78, 79, 80, 81, 82, 83, 84, 85, 86, 87, 88, 89, 90, 91, 92, 93, 94, 95]
theorem coK_3 : ∀ j ∈ coL_3, fCO j ∈ gT := List.forall_mem_cons.mpr ⟨cw_72, List.forall_mem_cons.mpr ⟨cw_73, List.forall_mem_cons.mpr ⟨cw_74, List.forall_mem_cons.mpr ⟨cw_75, List.forall_mem_cons.mpr ⟨cw_76, List.forall_mem_cons.mpr ⟨cw_77, List.forall_mem_cons.mpr ⟨cw_78, List.forall_mem_cons.mpr ⟨cw_79, List.forall_mem_cons.mpr ⟨cw_80, List.forall_mem_cons.mpr ⟨cw_81, List.forall_mem_cons.mpr ⟨cw_82, List.forall_mem_cons.mpr ⟨cw_83, List.forall_mem_cons.mpr ⟨cw_84, List.forall_mem_cons.mpr ⟨cw_85, List.forall_mem_cons.mpr ⟨cw_86, List.forall_mem_cons.mpr ⟨cw_87, List.forall_mem_cons.mpr ⟨cw_88, List.forall_mem_cons.mpr ⟨cw_89, List.forall_mem_cons.mpr ⟨cw_90, List.forall_mem_cons.mpr ⟨cw_91, List.forall_mem_cons.mpr ⟨cw_92, List.forall_mem_cons.mpr ⟨cw_93, List.forall_mem_cons.mpr ⟨cw_94, List.forall_mem_cons.mpr ⟨cw_95, fun _ h => absurd h List.not_mem_nil⟩⟩⟩⟩⟩⟩⟩⟩⟩⟩⟩⟩⟩⟩⟩⟩⟩⟩⟩⟩⟩⟩⟩⟩
def coL_4 : List Nat := [96, 97, 98, 99, 100, 101, 102, 103, 104, 105, 106, 107, 108, 109, 110, 111, 112, 113, 114, 115, 116, 117, 118, 119]
theorem coK_4 : ∀ j ∈ coL_4, fCO j ∈ gT := List.forall_mem_cons.mpr ⟨cw_96, List.forall_mem_cons.mpr ⟨cw_97, List.forall_mem_cons.mpr ⟨cw_98, List.forall_mem_cons.mpr ⟨cw_99, List.forall_mem_cons.mpr ⟨cw_100, List.forall_mem_cons.mpr ⟨cw_101, List.forall_mem_cons.mpr ⟨cw_102, List.forall_mem_cons.mpr ⟨cw_103, List.forall_mem_cons.mpr ⟨cw_104, List.forall_mem_cons.mpr ⟨cw_105, List.forall_mem_cons.mpr ⟨cw_106, List.forall_mem_cons.mpr ⟨cw_107, List.forall_mem_cons.mpr ⟨cw_108, List.forall_mem_cons.mpr ⟨cw_109, List.forall_mem_cons.mpr ⟨cw_110, List.forall_mem_cons.mpr ⟨cw_111, List.forall_mem_cons.mpr ⟨cw_112, List.forall_mem_cons.mpr ⟨cw_113, List.forall_mem_cons.mpr ⟨cw_114, List.forall_mem_cons.mpr ⟨cw_115, List.forall_mem_cons.mpr ⟨cw_116, List.forall_mem_cons.mpr ⟨cw_117, List.forall_mem_cons.mpr ⟨cw_118, List.forall_mem_cons.mpr ⟨cw_119, fun _ h => absurd h List.not_mem_nil⟩⟩⟩⟩⟩⟩⟩⟩⟩⟩⟩⟩⟩⟩⟩⟩⟩⟩⟩⟩⟩⟩⟩⟩
def coL_5 : List Nat := [120, 121, 122, 123, 124, 125, 126, 127, 128, 129, 130, 131, 132, 133, 134, 135, 136, 137, 138, 139, 140, 141, 142, 143]
theorem coK_5 : ∀ j ∈ coL_5, fCO j ∈ gT := List.forall_mem_cons.mpr ⟨cw_120, List.forall_mem_cons.mpr ⟨cw_121, List.forall_mem_cons.mpr ⟨cw_122, List.forall_mem_cons.mpr ⟨cw_123, List.forall_mem_cons.mpr ⟨cw_124, List.forall_mem_cons.mpr ⟨cw_125, List.forall_mem_cons.mpr ⟨cw_126, List.forall_mem_cons.mpr ⟨cw_127, List.forall_mem_cons.mpr ⟨cw_128, List.forall_mem_cons.mpr ⟨cw_129, List.forall_mem_cons.mpr ⟨cw_130, List.forall_mem_cons.mpr ⟨cw_131, List.forall_mem_cons.mpr ⟨cw_132, List.forall_mem_cons.mpr ⟨cw_133, List.forall_mem_cons.mpr ⟨cw_134, List.forall_mem_cons.mpr ⟨cw_135, List.forall_mem_cons.mpr ⟨cw_136, List.forall_mem_cons.mpr ⟨cw_137, List.forall_mem_cons.mpr ⟨cw_138, List.forall_mem_cons.mpr ⟨cw_139, List.forall_mem_cons.mpr ⟨cw_140, List.forall_mem_cons.mpr ⟨cw_141, List.forall_mem_cons.mpr ⟨cw_142, List.forall_mem_cons.mpr ⟨cw_143, fun _ h => absurd h List.not_mem_nil⟩⟩⟩⟩⟩⟩⟩⟩⟩⟩⟩⟩⟩⟩⟩⟩⟩⟩⟩⟩⟩⟩⟩⟩
def coL_6 : List Nat := [144, 145, 146, 147, 148, 149, 150, 151, 152, 153, 154, 155, 156, 157, 158, 159, 160, 161, 162, 163, 164, 165, 166, 167]
theorem coK_6 : ∀ j ∈ coL_6, fCO j ∈ gT := List.forall_mem_cons.mpr ⟨cw_144, List.forall_mem_cons.mpr ⟨cw_145, List.forall_mem_cons.mpr ⟨cw_146, List.forall_mem_cons.mpr ⟨cw_147, List.forall_mem_cons.mpr ⟨cw_148, List.forall_mem_cons.mpr ⟨cw_149, List.forall_mem_cons.mpr ⟨cw_150, List.forall_mem_cons.mpr ⟨cw_151, List.forall_mem_cons.mpr ⟨cw_152, List.forall_mem_cons.mpr ⟨cw_153, List.forall_mem_cons.mpr ⟨cw_154, List.forall_mem_cons.mpr ⟨cw_155, List.forall_mem_cons.mpr ⟨cw_156, List.forall_mem_cons.mpr ⟨cw_157, List.forall_mem_cons.mpr ⟨cw_158, List.forall_mem_cons.mpr ⟨cw_159, List.forall_mem_cons.mpr ⟨cw_160, List.forall_mem_cons.mpr ⟨cw_161, List.forall_mem_cons.mpr ⟨cw_162, List.forall_mem_cons.mpr ⟨cw_163, List.forall_mem_cons.mpr ⟨cw_164, List.forall_mem_cons.mpr ⟨cw_165, List.forall_mem_cons.mpr ⟨cw_166, List.forall_mem_cons.mpr ⟨cw_167, fun _ h => absurd h List.not_mem_nil⟩⟩⟩⟩⟩⟩⟩⟩⟩⟩⟩⟩⟩⟩⟩⟩⟩⟩⟩⟩⟩⟩⟩⟩
def coL_7 : List Nat := [168, 169, 170, 171, 172, 173, 174, 175, 176, 177, 178, 179, 180, 181, 182, 183, 184, 185, 186, 187, 188, 189, 190, 191]
theorem coK_7 : ∀ j ∈ coL_7, fCO j ∈ gT := List.forall_mem_cons.mpr ⟨cw_168, List.forall_mem_cons.mpr ⟨cw_169, List.forall_mem_cons.mpr ⟨cw_170, List.forall_mem_cons.mpr ⟨cw_171, List.forall_mem_cons.mpr ⟨cw_172, List.forall_mem_cons.mpr ⟨cw_173, List.forall_mem_cons.mpr ⟨cw_174, List.forall_mem_cons.mpr ⟨cw_175, List.forall_mem_cons.mpr ⟨cw_176, List.forall_mem_cons.mpr ⟨cw_177, List.forall_mem_cons.mpr ⟨cw_178, List.forall_mem_cons.mpr ⟨cw_179, List.forall_mem_cons.mpr ⟨cw_180, List.forall_mem_cons.mpr ⟨cw_181, List.forall_mem_cons.mpr ⟨cw_182, List.forall_mem_cons.mpr ⟨cw_183, List.forall_mem_cons.mpr ⟨cw_184, List.forall_mem_cons.mpr ⟨cw_185, List.forall_mem_cons.mpr ⟨cw_186, List.forall_mem_cons.mpr ⟨cw_187, List.forall_mem_cons.mpr ⟨cw_188, List.forall_mem_cons.mpr ⟨cw_189, List.forall_mem_cons.mpr ⟨cw_190, List.forall_mem_cons.mpr ⟨cw_191, fun _ h => absurd h List.not_mem_nil⟩⟩⟩⟩⟩⟩⟩⟩⟩⟩⟩⟩⟩⟩⟩⟩⟩⟩⟩⟩⟩⟩⟩⟩
def coL_8 : List Nat := [192, 193, 194, 195, 196, 197, 198, 199, 200, 201, 202, 203, 204, 205, 206, 207, 208, 209, 210, 211, 212, 213, 214, 215]
theorem coK_8 : ∀ j ∈ coL_8, fCO j ∈ gT := List.forall_mem_cons.mpr ⟨cw_192, List.forall_mem_cons.mpr ⟨cw_193, List.forall_mem_cons.mpr ⟨cw_194, List.forall_mem_cons.mpr ⟨cw_195, List.forall_mem_cons.mpr ⟨cw_196, List.forall_mem_cons.mpr ⟨cw_197, List.forall_mem_cons.mpr ⟨cw_198, List.forall_mem_cons.mpr ⟨cw_199, List.forall_mem_cons.mpr ⟨cw_200, List.forall_mem_cons.mpr ⟨cw_201, List.forall_mem_cons.mpr ⟨cw_202, List.forall_mem_cons.mpr ⟨cw_203, List.forall_mem_cons.mpr ⟨cw_204, List.forall_mem_cons.mpr ⟨cw_205, List.forall_mem_cons.mpr ⟨cw_206, List.forall_mem_cons.mpr ⟨cw_207, List.forall_mem_cons.mpr ⟨cw_208, List.forall_mem_cons.mpr ⟨cw_209, List.forall_mem_cons.mpr ⟨cw_210, List.forall_mem_cons.mpr ⟨cw_211, List.forall_mem_cons.mpr ⟨cw_212, List.forall_mem_cons.mpr ⟨cw_213, List.forall_mem_cons.mpr ⟨cw_214, List.forall_mem_cons.mpr ⟨cw_215, fun _ h => absurd h List.not_mem_nil⟩⟩⟩⟩⟩⟩⟩⟩⟩⟩⟩⟩⟩⟩⟩⟩⟩⟩⟩⟩⟩⟩⟩⟩
def coL_9 : List Nat := [216, 217, 218, 219, 220, 221, 222, 223, 224, 225, 226, 227, 228, 229, 230, 231, 232, 233, 234, 235, 236, 237, 238, 239]
theorem coK_9 : ∀ j ∈ coL_9, fCO j ∈ gT := List.forall_mem_cons.mpr ⟨cw_216, List.forall_mem_cons.mpr ⟨cw_217, List.forall_mem_cons.mpr ⟨cw_218, List.forall_mem_cons.mpr ⟨cw_219, List.forall_mem_cons.mpr ⟨cw_220, List.forall_mem_cons.mpr ⟨cw_221, List.forall_mem_cons.mpr ⟨cw_222, List.forall_mem_cons.mpr ⟨cw_223, List.forall_mem_cons.mpr ⟨cw_224, List.forall_mem_cons.mpr ⟨cw_225, List.forall_mem_cons.mpr ⟨cw_226, List.forall_mem_cons.mpr ⟨cw_227, List.forall_mem_cons.mpr ⟨cw_228, List.forall_mem_cons.mpr ⟨cw_229, List.forall_mem_cons.mpr ⟨cw_230, List.forall_mem_cons.mpr ⟨cw_231, List.forall_mem_cons.mpr ⟨cw_232, List.forall_mem_cons.mpr ⟨cw_233, List.forall_mem_cons.mpr ⟨cw_234, List.forall_mem_cons.mpr ⟨cw_235, List.forall_mem_cons.mpr ⟨cw_236, List.forall_mem_cons.mpr ⟨cw_237, List.forall_mem_cons.mpr ⟨cw_238, List.forall_mem_cons.mpr ⟨cw_239, fun _ h => absurd h List.not_mem_nil⟩⟩⟩⟩⟩⟩⟩⟩⟩⟩⟩⟩⟩⟩⟩⟩⟩⟩⟩⟩⟩⟩⟩⟩
def coL_10 : List Nat := [240, 241, 242, 243, 244, 245, 246, 247, 248, 249, 250, 251, 252, 253, 254, 255, 256, 257, 258, 259, 260, 261, 262, 263]
theorem coK_10 : ∀ j ∈ coL_10, fCO j ∈ gT := List.forall_mem_cons.mpr ⟨cw_240, List.forall_mem_cons.mpr ⟨cw_241, List.forall_mem_cons.mpr ⟨cw_242, List.forall_mem_cons.mpr ⟨cw_243, List.forall_mem_cons.mpr ⟨cw_244, List.forall_mem_cons.mpr ⟨cw_245, List.forall_mem_cons.mpr ⟨cw_246, List.forall_mem_cons.mpr ⟨cw_247, List.forall_mem_cons.mpr ⟨cw_248, List.forall_mem_cons.mpr ⟨cw_249, List.forall_mem_cons.mpr ⟨cw_250, List.forall_mem_cons.mpr ⟨cw_251, List.forall_mem_cons.mpr ⟨cw_252, List.forall_mem_cons.mpr ⟨cw_253, List.forall_mem_cons.mpr ⟨cw_254, List.forall_mem_cons.mpr ⟨cw_255, List.forall_mem_cons.mpr ⟨cw_256, List.forall_mem_cons.mpr ⟨cw_257, List.forall_mem_cons.mpr ⟨cw_258, List.forall_mem_cons.mpr ⟨cw_259, List.forall_mem_cons.mpr ⟨cw_260, List.forall_mem_cons.mpr ⟨cw_261, List.forall_mem_cons.mpr ⟨cw_262, List.forall_mem_cons.mpr ⟨cw_263, fun _ h => absurd h List.not_mem_nil⟩⟩⟩⟩⟩⟩⟩⟩⟩⟩⟩⟩⟩⟩⟩⟩⟩⟩⟩⟩⟩⟩⟩⟩
def coL_11 : List Nat := [264, 265, 266, 267, 268, 269, 270, 271, 272, 273, 274, 275, 276, 277, 278, 279, 280, 281, 282, 283, 284, 285, 286, 287]
theorem coK_11 : ∀ j ∈ coL_11, fCO j ∈ gT := List.forall_mem_cons.mpr ⟨cw_264, List.forall_mem_cons.mpr ⟨cw_265, List.forall_mem_cons.mpr ⟨cw_266, List.forall_mem_cons.mpr ⟨cw_267, List.forall_mem_cons.mpr ⟨cw_268, List.forall_mem_cons.mpr ⟨cw_269, List.forall_mem_cons.mpr ⟨cw_270, List.forall_mem_cons.mpr ⟨cw_271, List.forall_mem_cons.mpr ⟨cw_272, List.forall_mem_cons.mpr ⟨cw_273, List.forall_mem_cons.mpr ⟨cw_274, List.forall_mem_cons.mpr ⟨cw_275, List.forall_mem_cons.mpr ⟨cw_276, List.forall_mem_cons.mpr ⟨cw_277, List.forall_mem_cons.mpr ⟨cw_278, List.forall_mem_cons.mpr ⟨cw_279, List.forall_mem_cons.mpr ⟨cw_280, List.forall_mem_cons.mpr ⟨cw_281, List.forall_mem_cons.mpr ⟨cw_282, List.forall_mem_cons.mpr ⟨cw_283, List.forall_mem_cons.mpr ⟨cw_284, List.forall_mem_cons.mpr ⟨cw_285, List.forall_mem_cons.mpr ⟨cw_286, List.forall_mem_cons.mpr ⟨cw_287, fun _ h => absurd h List.not_mem_nil⟩⟩⟩⟩⟩⟩⟩⟩⟩⟩⟩⟩⟩⟩⟩⟩⟩⟩⟩⟩⟩⟩⟩⟩
def coL_12 : List Nat := [288, 289]
theorem coK_12 : ∀ j ∈ coL_12, fCO j ∈ gT := List.forall_mem_cons.mpr ⟨cw_288, List.forall_mem_cons.mpr ⟨cw_289, fun _ h => absurd h List.not_mem_nil⟩⟩
def coL : List Nat := coL_0 ++ (coL_1 ++ (coL_2 ++ (coL_3 ++ (coL_4 ++ (coL_5 ++ (coL_6 ++ (coL_7 ++ (coL_8 ++ (coL_9 ++ (coL_10 ++ (coL_11 ++ (coL_12))))))))))))
theorem CO_ok : ∀ j ∈ coL, fCO j ∈ gT := List.forall_mem_append.mpr ⟨coK_0, List.forall_mem_append.mpr ⟨coK_1, List.forall_mem_append.mpr ⟨coK_2, List.forall_mem_append.mpr ⟨coK_3, List.forall_mem_append.mpr ⟨coK_4, List.forall_mem_append.mpr ⟨coK_5, List.forall_mem_append.mpr ⟨coK_6, List.forall_mem_append.mpr ⟨coK_7, List.forall_mem_append.mpr ⟨coK_8, List.forall_mem_append.mpr ⟨coK_9, List.forall_mem_append.mpr ⟨coK_10, List.forall_mem_append.mpr ⟨coK_11, coK_12⟩⟩⟩⟩⟩⟩⟩⟩⟩⟩⟩⟩
end
section
/-! the program: each method as rows of instructions by their first places -/
/-- ShoeOrchard$Felt.<init>()V -/
def P0 : List (Nat × List Instr) := [
  (0, [.aload_n 0, .invokespecial 900, .aload_n 0, .bipush 8, .newarray .int, .putfield 1, .aload_n 0, .bipush 8, .newarray .boolean, .putfield 2, .return_])]
/-- ShoeOrchard$Felt.clear()V -/
def P1 : List (Nat × List Instr) := [
  (0, [.aload_n 0, .iconst 0, .putfield 0, .return_])]
/-- ShoeOrchard$Felt.add(IZ)Z -/
def P2 : List (Nat × List Instr) := [
  (0, [.aload_n 0, .getfield 0, .bipush 8, .if_icmp .lt 5, .iconst 0, .ireturn]),
  (11, [.aload_n 0, .getfield 1, .aload_n 0, .getfield 0, .iload_n 1, .iastore, .aload_n 0, .getfield 2, .aload_n 0, .getfield 0, .iload_n 2, .bastore, .aload_n 0, .dup, .getfield 0, .iconst 1, .iadd, .putfield 0, .iconst 1, .ireturn])]
/-- ShoeOrchard$Felt.allows(I[II)Z -/
def P3 : List (Nat × List Instr) := [
  (0, [.iconst 0, .istore 4]),
  (3, [.iload 4, .aload_n 0, .getfield 0, .if_icmp .ge 84, .aload_n 0, .getfield 1, .iload 4, .iaload, .ifCond .lt 27, .aload_n 0, .getfield 1, .iload 4, .iaload, .aload_n 2, .arraylength, .if_icmp .ge 15, .aload_n 2, .aload_n 0, .getfield 1, .iload 4, .iaload, .iaload, .goto 4]),
  (46, [.iconst (-1), .istore 5, .iload 5, .iload_n 1, .isub, .invokestatic 288, .iload_n 3, .if_icmp .gt 7, .iconst 1, .goto 4]),
  (47, [.istore 5, .iload 5, .iload_n 1, .isub, .invokestatic 288, .iload_n 3, .if_icmp .gt 7, .iconst 1, .goto 4]),
  (64, [.iconst 0, .istore 6, .iload 5, .iconst (-1), .if_icmp .eq 17, .iload 6, .aload_n 0, .getfield 2, .iload 4, .baload, .if_icmp .eq 5, .iconst 0, .ireturn]),
  (65, [.istore 6, .iload 5, .iconst (-1), .if_icmp .eq 17, .iload 6, .aload_n 0, .getfield 2, .iload 4, .baload, .if_icmp .eq 5, .iconst 0, .ireturn]),
  (87, [.iinc 4 1, .goto (-87)]),
  (93, [.iconst 1, .ireturn])]
/-- ShoeOrchard$Felt.copy(LShoeOrchard$Felt;)V -/
def P4 : List (Nat × List Instr) := [
  (0, [.aload_n 1, .getfield 1, .iconst 0, .aload_n 0, .getfield 1, .iconst 0, .bipush 8, .invokestatic 900, .iconst 0, .istore_n 2]),
  (17, [.iload_n 2, .bipush 8, .if_icmp .ge 21, .aload_n 0, .getfield 2, .iload_n 2, .aload_n 1, .getfield 2, .iload_n 2, .baload, .bastore, .iinc 2 1, .goto (-21)]),
  (41, [.aload_n 0, .aload_n 1, .getfield 0, .putfield 0, .return_])]
/-- ShoeOrchard$Formula.<init>()V -/
def P5 : List (Nat × List Instr) := [
  (0, [.aload_n 0, .invokespecial 900, .aload_n 0, .sipush 1000, .newarray .int, .putfield 64, .aload_n 0, .bipush 24, .newarray .int, .putfield 65, .return_])]
/-- ShoeOrchard$Formula.clear()V -/
def P6 : List (Nat × List Instr) := [
  (0, [.aload_n 0, .iconst 0, .putfield 66, .return_])]
/-- ShoeOrchard$Formula.add(I)V -/
def P7 : List (Nat × List Instr) := [
  (0, [.aload_n 0, .getfield 66, .sipush 1000, .if_icmp .ge 23, .aload_n 0, .getfield 64, .aload_n 0, .getfield 66, .iload_n 1, .iastore, .aload_n 0, .dup, .getfield 66, .iconst 1, .iadd, .putfield 66, .return_]),
  (30, [.return_])]
/-- ShoeOrchard$Formula.copy(LShoeOrchard$Formula;)V -/
def P8 : List (Nat × List Instr) := [
  (0, [.aload_n 1, .getfield 64, .iconst 0, .aload_n 0, .getfield 64, .iconst 0, .aload_n 1, .getfield 66, .invokestatic 900, .aload_n 0, .aload_n 1, .getfield 66, .putfield 66, .return_])]
/-- ShoeOrchard$Formula.value(IIII)I -/
def P9 : List (Nat × List Instr) := [
  (0, [.iconst 0, .istore 5, .aload_n 0, .getfield 65, .iconst 0, .iload_n 1, .iastore, .iconst 0, .istore 6]),
  (13, [.iload 6, .aload_n 0, .getfield 66, .if_icmp .ge 154, .aload_n 0, .getfield 64, .iload 6, .iaload, .istore 7, .iload 7, .iconst (-1), .if_icmp .ne 38, .iload 5, .iconst 1, .if_icmp .lt 32, .aload_n 0, .getfield 65, .iload 5, .iconst 1, .isub, .aload_n 0, .getfield 65, .iload 5, .iconst 1, .isub, .iaload, .ifCond .ne 7, .iconst 1, .goto 4]),
  (67, [.iconst 0, .iastore, .goto 98]),
  (68, [.iastore, .goto 98]),
  (72, [.iload 7, .iconst (-1), .if_icmp .ge 52, .iload 7, .bipush (-9), .if_icmp .le 45, .iload 5, .iconst 2, .if_icmp .lt 39, .iinc 5 (-1), .aload_n 0, .getfield 65, .iload 5, .iconst 1, .isub, .iload 7, .aload_n 0, .getfield 65, .iload 5, .iconst 1, .isub, .iaload, .aload_n 0, .getfield 65, .iload 5, .iaload, .invokestatic 10, .iastore, .goto 43]),
  (127, [.iload 5, .bipush 24, .if_icmp .ge 36, .aload_n 0, .getfield 65, .iload 5, .iload 7, .ifCond .lt 8, .iload 7, .goto 16]),
  (150, [.bipush (-9), .iload 7, .isub, .iload_n 1, .iload_n 2, .iload_n 3, .iload 4, .invokestatic 11, .iastore, .iinc 5 1, .iinc 6 1, .goto (-157)]),
  (163, [.iastore, .iinc 5 1, .iinc 6 1, .goto (-157)]),
  (167, [.iinc 6 1, .goto (-157)]),
  (173, [.aload_n 0, .getfield 65, .iconst 0, .iaload, .ireturn])]
/-- ShoeOrchard$Formula.joined(III)I -/
def P10 : List (Nat × List Instr) := [
  (0, [.iload_n 0, .tableswitch 97 (-7) (-2) #[93, 89, 78, 67, 53, 39]]),
  (40, [.iload_n 1, .ifCond .eq 11, .iload_n 2, .ifCond .eq 7, .iconst 1, .goto 4]),
  (52, [.iconst 0, .ireturn]),
  (53, [.ireturn]),
  (54, [.iload_n 1, .ifCond .ne 7, .iload_n 2, .ifCond .eq 7, .iconst 1, .goto 4]),
  (62, [.iconst 1, .goto 4]),
  (66, [.iconst 0, .ireturn]),
  (67, [.ireturn]),
  (68, [.iload_n 1, .iload_n 2, .if_icmp .ge 7, .iconst 1, .goto 4]),
  (77, [.iconst 0, .ireturn]),
  (78, [.ireturn]),
  (79, [.iload_n 1, .iload_n 2, .if_icmp .ne 7, .iconst 1, .goto 4]),
  (88, [.iconst 0, .ireturn]),
  (89, [.ireturn]),
  (90, [.iload_n 1, .iload_n 2, .iadd, .ireturn]),
  (94, [.iload_n 1, .iload_n 2, .isub, .ireturn]),
  (98, [.iload_n 1, .iload_n 2, .imul, .ireturn])]
/-- ShoeOrchard$Formula.fact(IIIII)I -/
def P11 : List (Nat × List Instr) := [
  (0, [.iload_n 0, .tableswitch 33 0 2 #[27, 29, 31]]),
  (28, [.iload_n 1, .ireturn]),
  (30, [.iload_n 2, .ireturn]),
  (32, [.iload_n 3, .ireturn]),
  (34, [.iload 4, .ireturn])]
/-- ShoeOrchard$Lines.<init>()V -/
def P12 : List (Nat × List Instr) := [
  (0, [.aload_n 0, .invokespecial 900, .aload_n 0, .bipush 40, .newarray .int, .putfield 129, .aload_n 0, .bipush 40, .newarray .int, .putfield 130, .aload_n 0, .bipush 40, .newarray .int, .putfield 131, .return_])]
/-- ShoeOrchard$Lines.clear()V -/
def P13 : List (Nat × List Instr) := [
  (0, [.aload_n 0, .iconst 0, .putfield 128, .return_])]
/-- ShoeOrchard$Lines.add(III)V -/
def P14 : List (Nat × List Instr) := [
  (0, [.aload_n 0, .getfield 128, .bipush 40, .if_icmp .ge 43, .aload_n 0, .getfield 129, .aload_n 0, .getfield 128, .iload_n 1, .iastore, .aload_n 0, .getfield 130, .aload_n 0, .getfield 128, .iload_n 2, .iastore, .aload_n 0, .getfield 131, .aload_n 0, .getfield 128, .iload_n 3, .iastore, .aload_n 0, .dup, .getfield 128, .iconst 1, .iadd, .putfield 128, .return_]),
  (49, [.return_])]
/-- ShoeOrchard$Lines.copy(LShoeOrchard$Lines;)V -/
def P15 : List (Nat × List Instr) := [
  (0, [.aload_n 1, .getfield 129, .iconst 0, .aload_n 0, .getfield 129, .iconst 0, .bipush 40, .invokestatic 900, .aload_n 1, .getfield 130, .iconst 0, .aload_n 0, .getfield 130, .iconst 0, .bipush 40, .invokestatic 900, .aload_n 1, .getfield 131, .iconst 0, .aload_n 0, .getfield 131, .iconst 0, .bipush 40, .invokestatic 900, .aload_n 0, .aload_n 1, .getfield 128, .putfield 128, .return_])]
/-- ShoeOrchard$Lines.carryOut(ILShoeOrchard$State;)I -/
def P16 : List (Nat × List Instr) := [
  (0, [.iload_n 1, .ifCond .lt 11, .iload_n 1, .aload_n 0, .getfield 128, .if_icmp .lt 5, .iconst (-1), .ireturn]),
  (12, [.iconst (-1), .ireturn]),
  (14, [.aload_n 0, .getfield 130, .iload_n 1, .iaload, .istore_n 3, .aload_n 0, .getfield 131, .iload_n 1, .iaload, .istore 4, .aload_n 0, .getfield 129, .iload_n 1, .iaload, .tableswitch 94 0 3 #[29, 57, 78, 87]]),
  (64, [.aload_n 2, .iload_n 3, .iload 4, .invokevirtual 74, .ifCond .ne 5, .iconst (-1), .ireturn]),
  (76, [.aload_n 2, .iload_n 3, .iload 4, .invokevirtual 76, .ifCond .eq 7, .iconst 1, .goto 4]),
  (90, [.iconst 0, .ireturn]),
  (91, [.ireturn]),
  (92, [.aload_n 2, .iload_n 3, .iload 4, .invokevirtual 78, .ifCond .ne 5, .iconst (-1), .ireturn]),
  (104, [.aload_n 2, .iload_n 3, .iload 4, .invokevirtual 79, .iconst 1, .ireturn]),
  (113, [.aload_n 2, .iload_n 3, .iload 4, .invokevirtual 80, .iconst 1, .ireturn]),
  (122, [.aload_n 2, .iload_n 3, .invokevirtual 81, .iconst 1, .ireturn]),
  (129, [.aload_n 2, .invokevirtual 82, .iconst 1, .ireturn])]
/-- ShoeOrchard$Matching.<init>()V -/
def P17 : List (Nat × List Instr) := [
  (0, [.aload_n 0, .invokespecial 900, .aload_n 0, .bipush 6, .newarray .int, .putfield 193, .aload_n 0, .bipush 6, .newarray .int, .putfield 194, .aload_n 0, .bipush 6, .newarray .int, .putfield 195, .aload_n 0, .sipush 448, .newarray .int, .putfield 198, .return_])]
/-- ShoeOrchard$Matching.begin(II)V -/
def P18 : List (Nat × List Instr) := [
  (0, [.aload_n 0, .bipush 6, .iload_n 1, .invokestatic 287, .putfield 196, .aload_n 0, .bipush 6, .iload_n 2, .invokestatic 287, .putfield 197, .return_])]
/-- ShoeOrchard$Matching.solve()V -/
def P19 : List (Nat × List Instr) := [
  (0, [.aload_n 0, .getfield 198, .iconst 0, .invokestatic 284, .aload_n 0, .getfield 196, .iconst 1, .isub, .istore_n 1]),
  (15, [.iload_n 1, .ifCond .lt 44, .iconst 0, .istore_n 2]),
  (21, [.iload_n 2, .iconst 1, .aload_n 0, .getfield 197, .ishl, .if_icmp .ge 26, .aload_n 0, .getfield 198, .iload_n 1, .bipush 64, .imul, .iload_n 2, .iadd, .aload_n 0, .iload_n 1, .iload_n 2, .invokevirtual 20, .iastore, .iinc 2 1, .goto (-30)]),
  (54, [.iinc 1 (-1), .goto (-42)]),
  (60, [.aload_n 0, .aload_n 0, .getfield 198, .iconst 0, .iaload, .putfield 192, .iconst 0, .istore_n 1, .iconst 0, .istore_n 2]),
  (74, [.iload_n 2, .aload_n 0, .getfield 196, .if_icmp .ge 46, .aload_n 0, .getfield 195, .iload_n 2, .aload_n 0, .iload_n 2, .iload_n 1, .invokevirtual 22, .iastore, .iload_n 1, .aload_n 0, .getfield 195, .iload_n 2, .iaload, .iconst (-1), .if_icmp .ne 7, .iconst 0, .goto 11]),
  (109, [.iconst 1, .aload_n 0, .getfield 195, .iload_n 2, .iaload, .ishl, .ior, .istore_n 1, .iinc 2 1, .goto (-48)]),
  (117, [.ior, .istore_n 1, .iinc 2 1, .goto (-48)]),
  (125, [.return_])]
/-- ShoeOrchard$Matching.mostFrom(II)I -/
def P20 : List (Nat × List Instr) := [
  (0, [.aload_n 0, .getfield 198, .iload_n 1, .iconst 1, .iadd, .bipush 64, .imul, .iload_n 2, .iadd, .iaload, .istore_n 3, .iconst 0, .istore 4]),
  (17, [.iload 4, .aload_n 0, .getfield 197, .if_icmp .ge 22, .iload_n 3, .aload_n 0, .iload_n 1, .iload_n 2, .iload 4, .invokevirtual 21, .invokestatic 286, .istore_n 3, .iinc 4 1, .goto (-25)]),
  (45, [.iload_n 3, .ireturn])]
/-- ShoeOrchard$Matching.mostBy(III)I -/
def P21 : List (Nat × List Instr) := [
  (0, [.aload_n 0, .getfield 193, .iload_n 1, .iaload, .iload_n 2, .iconst (-1), .ixor, .iand, .iload_n 3, .ishr, .iconst 1, .iand, .ifCond .eq 7, .iconst 1, .goto 4]),
  (21, [.iconst 0, .istore 4, .iload 4, .ifCond .eq 30, .aload_n 0, .getfield 194, .iload_n 3, .iaload, .aload_n 0, .getfield 198, .iload_n 1, .iconst 1, .iadd, .bipush 64, .imul, .iload_n 2, .iconst 1, .iload_n 3, .ishl, .ior, .iadd, .iaload, .iadd, .goto 4]),
  (22, [.istore 4, .iload 4, .ifCond .eq 30, .aload_n 0, .getfield 194, .iload_n 3, .iaload, .aload_n 0, .getfield 198, .iload_n 1, .iconst 1, .iadd, .bipush 64, .imul, .iload_n 2, .iconst 1, .iload_n 3, .ishl, .ior, .iadd, .iaload, .iadd, .goto 4]),
  (56, [.iconst (-1), .ireturn]),
  (57, [.ireturn])]
/-- ShoeOrchard$Matching.firstOfMost(II)I -/
def P22 : List (Nat × List Instr) := [
  (0, [.iconst 0, .istore_n 3]),
  (2, [.iload_n 3, .aload_n 0, .getfield 197, .if_icmp .ge 32, .aload_n 0, .iload_n 1, .iload_n 2, .iload_n 3, .invokevirtual 21, .aload_n 0, .getfield 198, .iload_n 1, .bipush 64, .imul, .iload_n 2, .iadd, .iaload, .if_icmp .ne 5, .iload_n 3, .ireturn]),
  (33, [.iinc 3 1, .goto (-34)]),
  (39, [.iconst (-1), .ireturn])]
/-- ShoeOrchard$MorningReader.<init>()V -/
def P23 : List (Nat × List Instr) := [
  (0, [.aload_n 0, .invokespecial 900, .aload_n 0, .new 2, .dup, .invokespecial 12, .putfield 256, .return_])]
/-- ShoeOrchard$MorningReader.read(LShoeOrchard$Tape;LShoeOrchard$Plan;)I -/
def P24 : List (Nat × List Instr) := [
  (0, [.aload_n 0, .getfield 256, .invokevirtual 13, .aload_n 1, .invokevirtual 89, .iconst 0, .istore_n 3]),
  (13, [.iload_n 3, .sipush 1000, .if_icmp .ge 39, .aload_n 1, .getfield 641, .ifCond .eq 32, .aload_n 0, .aload_n 1, .aload_n 2, .invokevirtual 25, .ifCond .eq 12, .aload_n 1, .bipush 59, .invokevirtual 105, .ifCond .ne 8, .aload_n 1, .getfield 644, .ireturn]),
  (45, [.aload_n 1, .getfield 644, .ireturn]),
  (50, [.iinc 3 1, .goto (-40)]),
  (56, [.iconst 0, .ireturn])]
/-- ShoeOrchard$MorningReader.readLine(LShoeOrchard$Tape;LShoeOrchard$Plan;)Z -/
def P25 : List (Nat × List Instr) := [
  (0, [.aload_n 1, .ret 12, .invokevirtual 96, .istore_n 3, .iload_n 3, .iconst (-1), .if_icmp .ne 9, .aload_n 1, .iconst 1, .invokevirtual 98, .ireturn]),
  (18, [.aload_n 0, .getfield 256, .getfield 128, .bipush 40, .if_icmp .lt 9, .aload_n 1, .iconst 5, .invokevirtual 98, .ireturn]),
  (36, [.aload_n 1, .invokevirtual 90, .iconst (-1), .istore 4, .iconst (-1), .istore 5, .iload_n 3, .iconst 4, .if_icmp .eq 26, .aload_n 0, .aload_n 1, .aload_n 2, .iload_n 3, .ifCond .eq 8, .iload_n 3, .iconst 1, .if_icmp .ne 7, .iconst 1, .goto 4]),
  (63, [.iconst 1, .goto 4]),
  (67, [.iconst 0, .iconst (-1), .invokevirtual 26, .istore 4, .aload_n 1, .getfield 644, .ifCond .ne 41, .iload_n 3, .iconst 4, .if_icmp .eq 36, .iload_n 3, .iconst 3, .if_icmp .eq 31, .aload_n 0, .aload_n 1, .aload_n 2, .iload_n 3, .iconst 1, .if_icmp .ne 7, .iconst 1, .goto 4]),
  (68, [.iconst (-1), .invokevirtual 26, .istore 4, .aload_n 1, .getfield 644, .ifCond .ne 41, .iload_n 3, .iconst 4, .if_icmp .eq 36, .iload_n 3, .iconst 3, .if_icmp .eq 31, .aload_n 0, .aload_n 1, .aload_n 2, .iload_n 3, .iconst 1, .if_icmp .ne 7, .iconst 1, .goto 4]),
  (74, [.aload_n 1, .getfield 644, .ifCond .ne 41, .iload_n 3, .iconst 4, .if_icmp .eq 36, .iload_n 3, .iconst 3, .if_icmp .eq 31, .aload_n 0, .aload_n 1, .aload_n 2, .iload_n 3, .iconst 1, .if_icmp .ne 7, .iconst 1, .goto 4]),
  (103, [.iconst 0, .iload_n 3, .ifCond .ne 7, .iconst (-1), .goto 5]),
  (104, [.iload_n 3, .ifCond .ne 7, .iconst (-1), .goto 5]),
  (112, [.iload 4, .invokevirtual 26, .istore 5, .aload_n 0, .getfield 256, .iload_n 3, .iload 4, .iload 5, .invokevirtual 14, .aload_n 1, .getfield 644, .ifCond .ne 7, .iconst 1, .goto 4]),
  (114, [.invokevirtual 26, .istore 5, .aload_n 0, .getfield 256, .iload_n 3, .iload 4, .iload 5, .invokevirtual 14, .aload_n 1, .getfield 644, .ifCond .ne 7, .iconst 1, .goto 4]),
  (119, [.aload_n 0, .getfield 256, .iload_n 3, .iload 4, .iload 5, .invokevirtual 14, .aload_n 1, .getfield 644, .ifCond .ne 7, .iconst 1, .goto 4]),
  (142, [.iconst 0, .ireturn]),
  (143, [.ireturn])]
/-- ShoeOrchard$MorningReader.readNamed(LShoeOrchard$Tape;LShoeOrchard$Plan;ZI)I -/
def P26 : List (Nat × List Instr) := [
  (0, [.aload_n 1, .invokevirtual 99, .ifCond .ne 11, .aload_n 1, .iconst 1, .invokevirtual 98, .pop, .iconst (-1), .ireturn]),
  (15, [.iload_n 3, .ifCond .eq 14, .aload_n 2, .aload_n 1, .getfield 643, .invokevirtual 52, .goto 11]),
  (30, [.aload_n 2, .aload_n 1, .getfield 643, .invokevirtual 51, .istore 5, .iload 5, .iconst (-1), .if_icmp .ne 11, .aload_n 1, .iconst 2, .invokevirtual 98, .pop, .iconst (-1), .ireturn]),
  (38, [.istore 5, .iload 5, .iconst (-1), .if_icmp .ne 11, .aload_n 1, .iconst 2, .invokevirtual 98, .pop, .iconst (-1), .ireturn]),
  (54, [.iload 5, .iload 4, .if_icmp .ne 11, .aload_n 1, .iconst 3, .invokevirtual 98, .pop, .iconst (-1), .ireturn]),
  (69, [.aload_n 1, .invokevirtual 90, .iload 5, .ireturn])]
/-- ShoeOrchard$OrchardReader.<init>()V -/
def P27 : List (Nat × List Instr) := [
  (0, [.aload_n 0, .invokespecial 900, .aload_n 0, .new 7, .dup, .invokespecial 49, .putfield 320, .return_])]
/-- ShoeOrchard$OrchardReader.read(LShoeOrchard$Tape;)I -/
def P28 : List (Nat × List Instr) := [
  (0, [.aload_n 0, .getfield 320, .invokevirtual 50, .aload_n 0, .iconst 0, .putfield 321, .aload_n 1, .invokevirtual 89, .iconst 0, .istore_n 2]),
  (18, [.iload_n 2, .sipush 1000, .if_icmp .ge 38, .aload_n 1, .getfield 641, .ifCond .eq 31, .aload_n 0, .aload_n 1, .invokevirtual 29, .ifCond .eq 12, .aload_n 1, .bipush 59, .invokevirtual 105, .ifCond .ne 8, .aload_n 1, .getfield 644, .ireturn]),
  (49, [.aload_n 1, .getfield 644, .ireturn]),
  (54, [.iinc 2 1, .goto (-39)]),
  (60, [.iconst 0, .ireturn])]
/-- ShoeOrchard$OrchardReader.readLine(LShoeOrchard$Tape;)Z -/
def P29 : List (Nat × List Instr) := [
  (0, [.aload_n 1, .ret 1, .invokevirtual 96, .istore_n 2, .iload_n 2, .tableswitch 145 0 5 #[40, 46, 52, 75, 98, 121]]),
  (48, [.aload_n 0, .aload_n 1, .invokevirtual 30, .ireturn]),
  (54, [.aload_n 0, .aload_n 1, .invokevirtual 32, .ireturn]),
  (60, [.aload_n 0, .aload_n 1, .iload_n 2, .invokevirtual 33, .ifCond .eq 15, .aload_n 0, .aload_n 1, .invokevirtual 34, .ifCond .eq 7, .iconst 1, .goto 4]),
  (81, [.iconst 0, .ireturn]),
  (82, [.ireturn]),
  (83, [.aload_n 0, .aload_n 1, .iload_n 2, .invokevirtual 33, .ifCond .eq 15, .aload_n 0, .aload_n 1, .invokevirtual 35, .ifCond .eq 7, .iconst 1, .goto 4]),
  (104, [.iconst 0, .ireturn]),
  (105, [.ireturn]),
  (106, [.aload_n 0, .aload_n 1, .iload_n 2, .invokevirtual 33, .ifCond .eq 15, .aload_n 0, .aload_n 1, .invokevirtual 36, .ifCond .eq 7, .iconst 1, .goto 4]),
  (127, [.iconst 0, .ireturn]),
  (128, [.ireturn]),
  (129, [.aload_n 0, .aload_n 1, .iload_n 2, .invokevirtual 33, .ifCond .eq 16, .aload_n 0, .aload_n 1, .iconst 0, .invokevirtual 37, .ifCond .eq 7, .iconst 1, .goto 4]),
  (151, [.iconst 0, .ireturn]),
  (152, [.ireturn]),
  (153, [.aload_n 1, .iconst 1, .invokevirtual 98, .ireturn])]
/-- ShoeOrchard$OrchardReader.readTree(LShoeOrchard$Tape;)Z -/
def P30 : List (Nat × List Instr) := [
  (0, [.aload_n 0, .getfield 320, .getfield 448, .bipush 6, .if_icmp .lt 9, .aload_n 1, .iconst 5, .invokevirtual 98, .ireturn]),
  (18, [.aload_n 1, .invokevirtual 90, .aload_n 0, .getfield 320, .getfield 448, .istore_n 2, .aload_n 0, .aload_n 1, .invokevirtual 31, .ifCond .ne 5, .iconst 0, .ireturn]),
  (40, [.aload_n 0, .getfield 320, .getfield 456, .iload_n 2, .aload_n 1, .getfield 643, .lastore, .aload_n 1, .invokevirtual 90, .aload_n 0, .getfield 320, .getfield 453, .iload_n 2, .aload_n 1, .ret 3, .invokevirtual 100, .iastore, .aload_n 1, .getfield 644, .ifCond .ne 12, .aload_n 1, .ret 4, .invokevirtual 101, .ifCond .ne 5, .iconst 0, .ireturn]),
  (88, [.iconst 0, .ireturn]),
  (90, [.aload_n 0, .getfield 320, .getfield 454, .iload_n 2, .aload_n 1, .iconst 0, .bipush 30, .invokevirtual 103, .iastore, .aload_n 1, .getfield 644, .ifCond .ne 12, .aload_n 1, .ret 5, .invokevirtual 101, .ifCond .ne 5, .iconst 0, .ireturn]),
  (122, [.iconst 0, .ireturn]),
  (124, [.aload_n 0, .getfield 320, .getfield 455, .iload_n 2, .aload_n 1, .iconst 0, .bipush 20, .invokevirtual 103, .iastore, .aload_n 0, .getfield 320, .dup, .getfield 448, .iconst 1, .iadd, .putfield 448, .aload_n 1, .getfield 644, .ifCond .ne 7, .iconst 1, .goto 4]),
  (164, [.iconst 0, .ireturn]),
  (165, [.ireturn])]
/-- ShoeOrchard$OrchardReader.isNewName(LShoeOrchard$Tape;)Z -/
def P31 : List (Nat × List Instr) := [
  (0, [.aload_n 1, .invokevirtual 99, .ifCond .ne 9, .aload_n 1, .iconst 1, .invokevirtual 98, .ireturn]),
  (13, [.aload_n 0, .getfield 320, .aload_n 1, .getfield 643, .invokevirtual 51, .iconst (-1), .if_icmp .ne 18, .aload_n 0, .getfield 320, .aload_n 1, .getfield 643, .invokevirtual 52, .iconst (-1), .if_icmp .eq 9, .aload_n 1, .iconst 3, .invokevirtual 98, .ireturn]),
  (43, [.aload_n 1, .iconst 3, .invokevirtual 98, .ireturn]),
  (49, [.iconst 1, .ireturn])]
/-- ShoeOrchard$OrchardReader.readPerson(LShoeOrchard$Tape;)Z -/
def P32 : List (Nat × List Instr) := [
  (0, [.aload_n 0, .getfield 320, .getfield 449, .bipush 6, .if_icmp .lt 9, .aload_n 1, .iconst 5, .invokevirtual 98, .ireturn]),
  (18, [.aload_n 1, .invokevirtual 90, .aload_n 0, .getfield 320, .getfield 449, .istore_n 2, .aload_n 0, .aload_n 1, .invokevirtual 31, .ifCond .ne 5, .iconst 0, .ireturn]),
  (40, [.aload_n 0, .getfield 320, .getfield 459, .iload_n 2, .aload_n 1, .getfield 643, .lastore, .aload_n 1, .invokevirtual 90, .aload_n 0, .getfield 320, .getfield 457, .iload_n 2, .aload_n 1, .ret 6, .invokevirtual 100, .iastore, .aload_n 1, .getfield 644, .ifCond .ne 12, .aload_n 1, .ret 7, .invokevirtual 101, .ifCond .ne 5, .iconst 0, .ireturn]),
  (88, [.iconst 0, .ireturn]),
  (90, [.aload_n 0, .getfield 320, .getfield 458, .iload_n 2, .aload_n 1, .iconst 0, .bipush 30, .invokevirtual 103, .iastore, .aload_n 0, .getfield 320, .dup, .getfield 449, .iconst 1, .iadd, .putfield 449, .aload_n 1, .getfield 644, .ifCond .ne 7, .iconst 1, .goto 4]),
  (130, [.iconst 0, .ireturn]),
  (131, [.ireturn])]
/-- ShoeOrchard$OrchardReader.readOnce(LShoeOrchard$Tape;I)Z -/
def P33 : List (Nat × List Instr) := [
  (0, [.aload_n 0, .getfield 321, .iload_n 2, .ishr, .iconst 1, .iand, .ifCond .eq 9, .aload_n 1, .iconst 3, .invokevirtual 98, .ireturn]),
  (17, [.aload_n 0, .dup, .getfield 321, .iconst 1, .iload_n 2, .ishl, .ior, .putfield 321, .aload_n 1, .invokevirtual 90, .iconst 1, .ireturn])]
/-- ShoeOrchard$OrchardReader.readPinch(LShoeOrchard$Tape;)Z -/
def P34 : List (Nat × List Instr) := [
  (0, [.aload_n 0, .getfield 320, .aload_n 1, .iconst 0, .iconst 5, .invokevirtual 103, .putfield 450, .aload_n 1, .getfield 644, .ifCond .ne 7, .iconst 1, .goto 4]),
  (24, [.iconst 0, .ireturn]),
  (25, [.ireturn])]
/-- ShoeOrchard$OrchardReader.readNoon(LShoeOrchard$Tape;)Z -/
def P35 : List (Nat × List Instr) := [
  (0, [.aload_n 0, .getfield 320, .aload_n 1, .iconst 1, .bipush 6, .invokevirtual 103, .putfield 451, .aload_n 1, .getfield 644, .ifCond .ne 7, .iconst 1, .goto 4]),
  (25, [.iconst 0, .ireturn]),
  (26, [.ireturn])]
/-- ShoeOrchard$OrchardReader.readFrosts(LShoeOrchard$Tape;)Z -/
def P36 : List (Nat × List Instr) := [
  (0, [.iconst 0, .istore_n 2]),
  (2, [.iload_n 2, .bipush 12, .if_icmp .ge 53, .aload_n 1, .iconst 0, .iconst 3, .invokevirtual 103, .istore_n 3, .iload_n 3, .iconst (-1), .if_icmp .ne 5, .iconst 0, .ireturn]),
  (22, [.aload_n 0, .getfield 320, .getfield 460, .iload_n 2, .iload_n 3, .iastore, .aload_n 0, .getfield 320, .iload_n 2, .iconst 1, .iadd, .putfield 452, .aload_n 1, .getfield 641, .iconst 2, .if_icmp .eq 5, .iconst 1, .ireturn]),
  (52, [.iinc 2 1, .goto (-53)]),
  (58, [.aload_n 1, .aload_n 1, .getfield 642, .iconst 3, .if_icmp .le 7, .iconst 4, .goto 4]),
  (71, [.iconst 5, .invokevirtual 98, .ireturn]),
  (72, [.invokevirtual 98, .ireturn])]
/-- ShoeOrchard$OrchardReader.readE(LShoeOrchard$Tape;I)Z -/
def P37 : List (Nat × List Instr) := [
  (0, [.aload_n 0, .aload_n 1, .iload_n 2, .invokevirtual 38, .ifCond .ne 5, .iconst 0, .ireturn]),
  (11, [.iconst 0, .istore_n 3]),
  (13, [.iload_n 3, .sipush 1000, .if_icmp .ge 70, .aload_n 1, .ret 10, .invokevirtual 102, .istore 4, .iload 4, .ifCond .ne 14, .aload_n 1, .ret 11, .invokevirtual 102, .ifCond .ne 5, .iconst 1, .ireturn]),
  (44, [.aload_n 1, .invokevirtual 90, .aload_n 0, .aload_n 1, .iload_n 2, .invokevirtual 38, .ifCond .ne 5, .iconst 0, .ireturn]),
  (59, [.aload_n 0, .getfield 320, .getfield 461, .iload 4, .ifCond .eq 8, .bipush (-2), .goto 5]),
  (76, [.bipush (-3), .invokevirtual 7, .iinc 3 1, .goto (-71)]),
  (78, [.invokevirtual 7, .iinc 3 1, .goto (-71)]),
  (87, [.iconst 1, .ireturn])]
/-- ShoeOrchard$OrchardReader.readTest(LShoeOrchard$Tape;I)Z -/
def P38 : List (Nat × List Instr) := [
  (0, [.aload_n 0, .aload_n 1, .iload_n 2, .invokevirtual 39, .ifCond .ne 5, .iconst 0, .ireturn]),
  (11, [.aload_n 1, .bipush 60, .invokevirtual 104, .istore_n 3, .iload_n 3, .ifCond .ne 14, .aload_n 1, .bipush 61, .invokevirtual 104, .ifCond .ne 5, .iconst 1, .ireturn]),
  (33, [.aload_n 1, .invokevirtual 90, .aload_n 0, .aload_n 1, .iload_n 2, .invokevirtual 39, .ifCond .ne 5, .iconst 0, .ireturn]),
  (48, [.aload_n 0, .getfield 320, .getfield 461, .iload_n 3, .ifCond .eq 8, .bipush (-4), .goto 5]),
  (64, [.bipush (-5), .invokevirtual 7, .iconst 1, .ireturn]),
  (66, [.invokevirtual 7, .iconst 1, .ireturn])]
/-- ShoeOrchard$OrchardReader.readSum(LShoeOrchard$Tape;I)Z -/
def P39 : List (Nat × List Instr) := [
  (0, [.aload_n 0, .aload_n 1, .iload_n 2, .invokevirtual 40, .ifCond .ne 5, .iconst 0, .ireturn]),
  (11, [.iconst 0, .istore_n 3]),
  (13, [.iload_n 3, .sipush 1000, .if_icmp .ge 70, .aload_n 1, .bipush 43, .invokevirtual 104, .istore 4, .iload 4, .ifCond .ne 14, .aload_n 1, .bipush 45, .invokevirtual 104, .ifCond .ne 5, .iconst 1, .ireturn]),
  (44, [.aload_n 1, .invokevirtual 90, .aload_n 0, .aload_n 1, .iload_n 2, .invokevirtual 40, .ifCond .ne 5, .iconst 0, .ireturn]),
  (59, [.aload_n 0, .getfield 320, .getfield 461, .iload 4, .ifCond .eq 8, .bipush (-6), .goto 5]),
  (76, [.bipush (-7), .invokevirtual 7, .iinc 3 1, .goto (-71)]),
  (78, [.invokevirtual 7, .iinc 3 1, .goto (-71)]),
  (87, [.iconst 1, .ireturn])]
/-- ShoeOrchard$OrchardReader.readProduct(LShoeOrchard$Tape;I)Z -/
def P40 : List (Nat × List Instr) := [
  (0, [.aload_n 0, .aload_n 1, .iload_n 2, .invokevirtual 41, .ifCond .ne 5, .iconst 0, .ireturn]),
  (11, [.iconst 0, .istore_n 3]),
  (13, [.iload_n 3, .sipush 1000, .if_icmp .ge 47, .aload_n 1, .bipush 42, .invokevirtual 104, .ifCond .ne 5, .iconst 1, .ireturn]),
  (31, [.aload_n 1, .invokevirtual 90, .aload_n 0, .aload_n 1, .iload_n 2, .invokevirtual 41, .ifCond .ne 5, .iconst 0, .ireturn]),
  (46, [.aload_n 0, .getfield 320, .getfield 461, .bipush (-8), .invokevirtual 7, .iinc 3 1, .goto (-48)]),
  (64, [.iconst 1, .ireturn])]
/-- ShoeOrchard$OrchardReader.readPart(LShoeOrchard$Tape;I)Z -/
def P41 : List (Nat × List Instr) := [
  (0, [.aload_n 1, .getfield 641, .iconst 2, .if_icmp .ne 7, .iconst 1, .goto 4]),
  (12, [.iconst 0, .istore_n 3, .aload_n 1, .ret 8, .invokevirtual 102, .istore 4, .aload_n 1, .bipush 40, .invokevirtual 104, .istore 5, .aload_n 1, .ret 9, .invokevirtual 96, .istore 6, .iload_n 3, .ifCond .ne 25, .iload 4, .ifCond .ne 20, .iload 5, .ifCond .ne 15, .iload 6, .iconst (-1), .if_icmp .ne 9, .aload_n 1, .iconst 1, .invokevirtual 98, .ireturn]),
  (13, [.istore_n 3, .aload_n 1, .ret 8, .invokevirtual 102, .istore 4, .aload_n 1, .bipush 40, .invokevirtual 104, .istore 5, .aload_n 1, .ret 9, .invokevirtual 96, .istore 6, .iload_n 3, .ifCond .ne 25, .iload 4, .ifCond .ne 20, .iload 5, .ifCond .ne 15, .iload 6, .iconst (-1), .if_icmp .ne 9, .aload_n 1, .iconst 1, .invokevirtual 98, .ireturn]),
  (64, [.iload_n 2, .iconst 5, .if_icmp .lt 9, .aload_n 1, .iconst 5, .invokevirtual 98, .ireturn]),
  (75, [.iload_n 3, .ifCond .eq 10, .aload_n 1, .getfield 642, .goto 8]),
  (86, [.bipush (-9), .iload 6, .isub, .istore 7, .aload_n 1, .invokevirtual 90, .iload 5, .ifCond .eq 29, .aload_n 0, .aload_n 1, .iload_n 2, .iconst 1, .iadd, .invokevirtual 37, .ifCond .eq 16, .aload_n 1, .bipush 41, .invokevirtual 105, .ifCond .eq 7, .iconst 1, .goto 4]),
  (91, [.istore 7, .aload_n 1, .invokevirtual 90, .iload 5, .ifCond .eq 29, .aload_n 0, .aload_n 1, .iload_n 2, .iconst 1, .iadd, .invokevirtual 37, .ifCond .eq 16, .aload_n 1, .bipush 41, .invokevirtual 105, .ifCond .eq 7, .iconst 1, .goto 4]),
  (126, [.iconst 0, .ireturn]),
  (127, [.ireturn]),
  (128, [.iload 4, .ifCond .eq 19, .aload_n 0, .aload_n 1, .iload_n 2, .iconst 1, .iadd, .invokevirtual 41, .ifCond .ne 5, .iconst 0, .ireturn]),
  (146, [.iconst (-1), .istore 7, .aload_n 0, .getfield 320, .getfield 461, .iload 7, .invokevirtual 7, .iconst 1, .ireturn]),
  (149, [.aload_n 0, .getfield 320, .getfield 461, .iload 7, .invokevirtual 7, .iconst 1, .ireturn])]
/-- ShoeOrchard$Past.<init>(LShoeOrchard$Plan;)V -/
def P42 : List (Nat × List Instr) := [
  (0, [.aload_n 0, .invokespecial 900, .aload_n 0, .bipush 16, .anewarray 18, .putfield 385, .aload_n 0, .iconst 4, .anewarray 18, .putfield 386, .aload_n 0, .iconst 4, .anewarray 17, .putfield 387, .aload_n 0, .iconst 4, .newarray .boolean, .putfield 388, .iconst 0, .istore_n 2]),
  (38, [.iload_n 2, .bipush 16, .if_icmp .ge 23, .aload_n 0, .getfield 385, .iload_n 2, .new 9, .dup, .aload_n 1, .invokespecial 67, .aastore, .iinc 2 1, .goto (-23)]),
  (64, [.iconst 0, .istore_n 2]),
  (66, [.iload_n 2, .iconst 4, .if_icmp .ge 36, .aload_n 0, .getfield 386, .iload_n 2, .new 9, .dup, .aload_n 1, .invokespecial 67, .aastore, .aload_n 0, .getfield 387, .iload_n 2, .new 0, .dup, .invokespecial 0, .aastore, .iinc 2 1, .goto (-35)]),
  (104, [.return_])]
/-- ShoeOrchard$Past.forgetAll()V -/
def P43 : List (Nat × List Instr) := [
  (0, [.aload_n 0, .iconst 0, .putfield 384, .iconst 0, .istore_n 1]),
  (7, [.iload_n 1, .iconst 4, .if_icmp .ge 16, .aload_n 0, .getfield 388, .iload_n 1, .iconst 0, .bastore, .iinc 1 1, .goto (-15)]),
  (25, [.return_])]
/-- ShoeOrchard$Past.keep(LShoeOrchard$State;)V -/
def P44 : List (Nat × List Instr) := [
  (0, [.aload_n 0, .getfield 384, .bipush 16, .if_icmp .lt 7, .aload_n 0, .invokevirtual 45, .aload_n 0, .getfield 385, .aload_n 0, .getfield 384, .aaload, .aload_n 1, .invokevirtual 75, .aload_n 0, .dup, .getfield 384, .iconst 1, .iadd, .putfield 384, .return_]),
  (13, [.aload_n 0, .getfield 385, .aload_n 0, .getfield 384, .aaload, .aload_n 1, .invokevirtual 75, .aload_n 0, .dup, .getfield 384, .iconst 1, .iadd, .putfield 384, .return_])]
/-- ShoeOrchard$Past.dropOldest()V -/
def P45 : List (Nat × List Instr) := [
  (0, [.aload_n 0, .getfield 385, .iconst 0, .aaload, .astore_n 1, .iconst 1, .istore_n 2]),
  (9, [.iload_n 2, .bipush 16, .if_icmp .ge 23, .aload_n 0, .getfield 385, .iload_n 2, .iconst 1, .isub, .aload_n 0, .getfield 385, .iload_n 2, .aaload, .aastore, .iinc 2 1, .goto (-23)]),
  (35, [.aload_n 0, .getfield 385, .bipush 15, .aload_n 1, .aastore, .aload_n 0, .bipush 15, .putfield 384, .return_])]
/-- ShoeOrchard$Past.bringBack(LShoeOrchard$State;)Z -/
def P46 : List (Nat × List Instr) := [
  (0, [.aload_n 0, .getfield 384, .iconst 1, .if_icmp .ge 5, .iconst 0, .ireturn]),
  (10, [.aload_n 0, .dup, .getfield 384, .iconst 1, .isub, .putfield 384, .aload_n 1, .aload_n 0, .getfield 385, .aload_n 0, .getfield 384, .aaload, .invokevirtual 75, .iconst 1, .ireturn])]
/-- ShoeOrchard$Past.goBack(ILShoeOrchard$State;LShoeOrchard$Felt;)Z -/
def P47 : List (Nat × List Instr) := [
  (0, [.iload_n 1, .ifCond .lt 17, .iload_n 1, .iconst 4, .if_icmp .ge 12, .aload_n 0, .getfield 388, .iload_n 1, .baload, .ifCond .ne 5, .iconst 0, .ireturn]),
  (18, [.iconst 0, .ireturn]),
  (20, [.aload_n 2, .aload_n 0, .getfield 386, .iload_n 1, .aaload, .invokevirtual 75, .aload_n 3, .aload_n 0, .getfield 387, .iload_n 1, .aaload, .invokevirtual 4, .aload_n 0, .iconst 0, .putfield 384, .iconst 1, .ireturn])]
/-- ShoeOrchard$Past.lay(ILShoeOrchard$State;LShoeOrchard$Felt;)V -/
def P48 : List (Nat × List Instr) := [
  (0, [.iload_n 1, .ifCond .lt 35, .iload_n 1, .iconst 4, .if_icmp .ge 30, .aload_n 0, .getfield 386, .iload_n 1, .aaload, .aload_n 2, .invokevirtual 75, .aload_n 0, .getfield 387, .iload_n 1, .aaload, .aload_n 3, .invokevirtual 4, .aload_n 0, .getfield 388, .iload_n 1, .iconst 1, .bastore, .return_]),
  (36, [.return_])]
/-- ShoeOrchard$Plan.<init>()V -/
def P49 : List (Nat × List Instr) := [
  (0, [.aload_n 0, .invokespecial 900, .aload_n 0, .bipush 6, .newarray .int, .putfield 453, .aload_n 0, .bipush 6, .newarray .int, .putfield 454, .aload_n 0, .bipush 6, .newarray .int, .putfield 455, .aload_n 0, .bipush 6, .newarray .long, .putfield 456, .aload_n 0, .bipush 6, .newarray .int, .putfield 457, .aload_n 0, .bipush 6, .newarray .int, .putfield 458, .aload_n 0, .bipush 6, .newarray .long, .putfield 459, .aload_n 0, .bipush 12, .newarray .int, .putfield 460, .aload_n 0, .new 1, .dup, .invokespecial 5, .putfield 461, .return_])]
/-- ShoeOrchard$Plan.clear()V -/
def P50 : List (Nat × List Instr) := [
  (0, [.aload_n 0, .iconst 0, .putfield 448, .aload_n 0, .iconst 0, .putfield 449, .aload_n 0, .iconst 1, .putfield 450, .aload_n 0, .iconst 3, .putfield 451, .aload_n 0, .iconst 0, .putfield 452, .aload_n 0, .getfield 461, .invokevirtual 6, .return_])]
/-- ShoeOrchard$Plan.treeNamed(J)I -/
def P51 : List (Nat × List Instr) := [
  (0, [.iconst 0, .istore_n 3]),
  (2, [.iload_n 3, .aload_n 0, .getfield 448, .if_icmp .ge 22, .aload_n 0, .getfield 456, .iload_n 3, .laload, .lload_n 1, .lcmp, .ifCond .ne 5, .iload_n 3, .ireturn]),
  (23, [.iinc 3 1, .goto (-24)]),
  (29, [.iconst (-1), .ireturn])]
/-- ShoeOrchard$Plan.personNamed(J)I -/
def P52 : List (Nat × List Instr) := [
  (0, [.iconst 0, .istore_n 3]),
  (2, [.iload_n 3, .aload_n 0, .getfield 449, .if_icmp .ge 22, .aload_n 0, .getfield 459, .iload_n 3, .laload, .lload_n 1, .lcmp, .ifCond .ne 5, .iload_n 3, .ireturn]),
  (23, [.iinc 3 1, .goto (-24)]),
  (29, [.iconst (-1), .ireturn])]
/-- ShoeOrchard$Plan.copy(LShoeOrchard$Plan;)V -/
def P53 : List (Nat × List Instr) := [
  (0, [.aload_n 0, .aload_n 1, .getfield 448, .putfield 448, .aload_n 0, .aload_n 1, .getfield 449, .putfield 449, .aload_n 0, .aload_n 1, .getfield 450, .putfield 450, .aload_n 0, .aload_n 1, .getfield 451, .putfield 451, .aload_n 0, .aload_n 1, .getfield 452, .putfield 452, .aload_n 1, .getfield 453, .iconst 0, .aload_n 0, .getfield 453, .iconst 0, .bipush 6, .invokestatic 900, .aload_n 1, .getfield 454, .iconst 0, .aload_n 0, .getfield 454, .iconst 0, .bipush 6, .invokestatic 900, .aload_n 1, .getfield 455, .iconst 0, .aload_n 0, .getfield 455, .iconst 0, .bipush 6, .invokestatic 900, .aload_n 1, .getfield 456, .iconst 0, .aload_n 0, .getfield 456, .iconst 0, .bipush 6, .invokestatic 901, .aload_n 1, .getfield 457, .iconst 0, .aload_n 0, .getfield 457, .iconst 0, .bipush 6, .invokestatic 900, .aload_n 1, .getfield 458, .iconst 0, .aload_n 0, .getfield 458, .iconst 0, .bipush 6, .invokestatic 900, .aload_n 1, .getfield 459, .iconst 0, .aload_n 0, .getfield 459, .iconst 0, .bipush 6, .invokestatic 901, .aload_n 1, .getfield 460, .iconst 0, .aload_n 0, .getfield 460, .iconst 0, .bipush 12, .invokestatic 900, .aload_n 0, .getfield 461, .aload_n 1, .getfield 461, .invokevirtual 8, .return_])]
/-- ShoeOrchard$Plan.isTree(I)Z -/
def P54 : List (Nat × List Instr) := [
  (0, [.iload_n 1, .ifCond .lt 15, .iload_n 1, .aload_n 0, .getfield 448, .if_icmp .ge 7, .iconst 1, .goto 4]),
  (16, [.iconst 0, .ireturn]),
  (17, [.ireturn])]
/-- ShoeOrchard$Plan.frostOf(I)I -/
def P55 : List (Nat × List Instr) := [
  (0, [.aload_n 0, .getfield 452, .iconst 1, .if_icmp .lt 7, .iload_n 1, .ifCond .ge 7, .iconst 0, .goto 14]),
  (12, [.iconst 0, .goto 14]),
  (16, [.aload_n 0, .getfield 460, .iload_n 1, .aload_n 0, .getfield 452, .irem, .iaload, .ireturn]),
  (27, [.ireturn])]
/-- ShoeOrchard$Plan.standsFrost(II)Z -/
def P56 : List (Nat × List Instr) := [
  (0, [.aload_n 0, .iload_n 1, .invokevirtual 54, .ifCond .eq 21, .iload_n 2, .getstatic 200, .aload_n 0, .getfield 453, .iload_n 1, .iaload, .iaload, .if_icmp .gt 7, .iconst 1, .goto 4]),
  (26, [.iconst 0, .ireturn]),
  (27, [.ireturn])]
/-- ShoeOrchard$Plan.sizeBy(III)I -/
def P57 : List (Nat × List Instr) := [
  (0, [.aload_n 0, .getfield 461, .iload_n 1, .iload_n 2, .aload_n 0, .iload_n 3, .invokevirtual 55, .iload_n 3, .invokevirtual 9, .istore 4, .iconst 0, .bipush 40, .iload 4, .invokestatic 287, .invokestatic 286, .ireturn])]
/-- ShoeOrchard$Plan.isPerson(I)Z -/
def P58 : List (Nat × List Instr) := [
  (0, [.iload_n 1, .ifCond .lt 15, .iload_n 1, .aload_n 0, .getfield 449, .if_icmp .ge 7, .iconst 1, .goto 4]),
  (16, [.iconst 0, .ireturn]),
  (17, [.ireturn])]
/-- ShoeOrchard$Plan.pinched(III)I -/
def P59 : List (Nat × List Instr) := [
  (0, [.aload_n 0, .iload_n 1, .invokevirtual 58, .ifCond .eq 12, .aload_n 0, .getfield 457, .iload_n 1, .iaload, .goto 4]),
  (17, [.iconst 0, .istore 4, .iload_n 3, .iload_n 2, .isub, .invokestatic 288, .istore 5, .iload 4, .iconst 2, .if_icmp .ne 18, .iload 5, .iconst 2, .iload_n 3, .imul, .iload_n 2, .isub, .invokestatic 288, .invokestatic 287, .istore 5, .iload 4, .iconst 3, .if_icmp .ne 12, .aload_n 0, .getfield 450, .iconst 1, .iadd, .goto 7]),
  (18, [.istore 4, .iload_n 3, .iload_n 2, .isub, .invokestatic 288, .istore 5, .iload 4, .iconst 2, .if_icmp .ne 18, .iload 5, .iconst 2, .iload_n 3, .imul, .iload_n 2, .isub, .invokestatic 288, .invokestatic 287, .istore 5, .iload 4, .iconst 3, .if_icmp .ne 12, .aload_n 0, .getfield 450, .iconst 1, .iadd, .goto 7]),
  (49, [.iload 4, .iconst 3, .if_icmp .ne 12, .aload_n 0, .getfield 450, .iconst 1, .iadd, .goto 7]),
  (64, [.aload_n 0, .getfield 450, .istore 6, .iconst 0, .iload 5, .iload 6, .isub, .invokestatic 286, .ireturn]),
  (68, [.istore 6, .iconst 0, .iload 5, .iload 6, .isub, .invokestatic 286, .ireturn])]
/-- ShoeOrchard$Plan.roadBy(I)I -/
def P60 : List (Nat × List Instr) := [
  (0, [.aload_n 0, .iload_n 1, .invokevirtual 54, .ifCond .eq 16, .getstatic 201, .aload_n 0, .getfield 453, .iload_n 1, .iaload, .iaload, .goto 4]),
  (21, [.iconst 0, .ireturn]),
  (22, [.ireturn])]
/-- ShoeOrchard$Queue.<init>()V -/
def P61 : List (Nat × List Instr) := [
  (0, [.aload_n 0, .invokespecial 900, .aload_n 0, .bipush 6, .newarray .int, .putfield 514, .aload_n 0, .bipush 6, .newarray .int, .putfield 517, .aload_n 0, .bipush 6, .newarray .int, .putfield 518, .aload_n 0, .bipush 6, .newarray .int, .putfield 519, .aload_n 0, .bipush 6, .newarray .int, .putfield 520, .return_])]
/-- ShoeOrchard$Queue.begin(II)V -/
def P62 : List (Nat × List Instr) := [
  (0, [.aload_n 0, .iconst 0, .putfield 512, .aload_n 0, .iload_n 1, .putfield 515, .aload_n 0, .bipush 6, .iload_n 2, .invokestatic 287, .putfield 516, .return_])]
/-- ShoeOrchard$Queue.add(III)V -/
def P63 : List (Nat × List Instr) := [
  (0, [.aload_n 0, .getfield 512, .bipush 6, .if_icmp .ge 43, .aload_n 0, .getfield 517, .aload_n 0, .getfield 512, .iload_n 1, .iastore, .aload_n 0, .getfield 518, .aload_n 0, .getfield 512, .iload_n 2, .iastore, .aload_n 0, .getfield 519, .aload_n 0, .getfield 512, .iload_n 3, .iastore, .aload_n 0, .dup, .getfield 512, .iconst 1, .iadd, .putfield 512, .return_]),
  (49, [.return_])]
/-- ShoeOrchard$Queue.solve(I)V -/
def P64 : List (Nat × List Instr) := [
  (0, [.aload_n 0, .iconst (-1), .putfield 513, .aload_n 0, .iconst 0, .iconst 0, .iload_n 1, .iconst 0, .invokevirtual 65, .return_])]
/-- ShoeOrchard$Queue.goOn(IIII)V -/
def P65 : List (Nat × List Instr) := [
  (0, [.iload_n 1, .aload_n 0, .getfield 512, .if_icmp .lt 36, .iload 4, .aload_n 0, .getfield 513, .if_icmp .le 26, .aload_n 0, .iload 4, .putfield 513, .aload_n 0, .getfield 520, .iconst 0, .aload_n 0, .getfield 514, .iconst 0, .aload_n 0, .getfield 512, .invokestatic 900, .return_]),
  (40, [.return_]),
  (41, [.iload 4, .aload_n 0, .getfield 512, .iadd, .iload_n 1, .isub, .aload_n 0, .getfield 513, .if_icmp .gt 4, .return_]),
  (58, [.iconst 0, .istore 5]),
  (61, [.iload 5, .aload_n 0, .getfield 512, .if_icmp .ge 90, .iload_n 2, .iload 5, .ishr, .iconst 1, .iand, .ifCond .ne 75, .aload_n 0, .getfield 520, .iload_n 1, .aload_n 0, .getfield 517, .iload 5, .iaload, .iastore, .aload_n 0, .iload 5, .iload_n 3, .invokevirtual 66, .istore 6, .iload 6, .iconst (-1), .if_icmp .ne 7, .iload_n 3, .goto 11]),
  (111, [.iload_n 3, .iconst 1, .iload 6, .ishl, .iconst (-1), .ixor, .iand, .istore 7, .aload_n 0, .iload_n 1, .iconst 1, .iadd, .iload_n 2, .iconst 1, .iload 5, .ishl, .ior, .iload 7, .iload 6, .iconst (-1), .if_icmp .ne 8, .iload 4, .goto 7]),
  (119, [.istore 7, .aload_n 0, .iload_n 1, .iconst 1, .iadd, .iload_n 2, .iconst 1, .iload 5, .ishl, .ior, .iload 7, .iload 6, .iconst (-1), .if_icmp .ne 8, .iload 4, .goto 7]),
  (144, [.iload 4, .iconst 1, .iadd, .invokevirtual 65, .iinc 5 1, .goto (-93)]),
  (148, [.invokevirtual 65, .iinc 5 1, .goto (-93)]),
  (151, [.iinc 5 1, .goto (-93)]),
  (157, [.return_])]
/-- ShoeOrchard$Queue.treeFor(II)I -/
def P66 : List (Nat × List Instr) := [
  (0, [.aload_n 0, .getfield 518, .iload_n 1, .iaload, .istore_n 3, .iconst 0, .istore 4]),
  (10, [.iload 4, .aload_n 0, .getfield 516, .if_icmp .ge 46, .iload_n 3, .aload_n 0, .getfield 515, .if_icmp .ge 38, .iload_n 2, .iload 4, .ishr, .iconst 1, .iand, .ifCond .eq 23, .iinc 3 1, .aload_n 0, .getfield 519, .iload_n 1, .iaload, .iload 4, .ishr, .iconst 1, .iand, .ifCond .eq 6, .iload 4, .ireturn]),
  (56, [.iinc 4 1, .goto (-49)]),
  (62, [.iconst (-1), .ireturn])]
/-- ShoeOrchard$State.<init>(LShoeOrchard$Plan;)V -/
def P67 : List (Nat × List Instr) := [
  (0, [.aload_n 0, .invokespecial 900, .aload_n 0, .bipush 6, .newarray .int, .putfield 577, .aload_n 0, .bipush 6, .newarray .int, .putfield 578, .aload_n 0, .bipush 6, .newarray .int, .putfield 579, .aload_n 0, .bipush 6, .newarray .int, .putfield 580, .aload_n 0, .bipush 6, .newarray .int, .putfield 581, .aload_n 0, .bipush 6, .newarray .int, .putfield 582, .aload_n 0, .bipush 6, .newarray .int, .putfield 583, .aload_n 0, .aload_n 1, .putfield 584, .return_])]
/-- ShoeOrchard$State.begin()V -/
def P68 : List (Nat × List Instr) := [
  (0, [.aload_n 0, .iconst 0, .putfield 576, .aload_n 0, .getfield 584, .getfield 454, .iconst 0, .aload_n 0, .getfield 577, .iconst 0, .bipush 6, .invokestatic 900, .aload_n 0, .getfield 584, .getfield 455, .iconst 0, .aload_n 0, .getfield 578, .iconst 0, .bipush 6, .invokestatic 900, .aload_n 0, .getfield 584, .getfield 458, .iconst 0, .aload_n 0, .getfield 579, .iconst 0, .bipush 6, .invokestatic 900, .aload_n 0, .getfield 583, .iconst 0, .invokestatic 284, .aload_n 0, .invokevirtual 69, .return_])]
/-- ShoeOrchard$State.beginMorning()V -/
def P69 : List (Nat × List Instr) := [
  (0, [.aload_n 0, .getfield 580, .iconst 0, .invokestatic 284, .aload_n 0, .getfield 581, .iconst (-1), .invokestatic 284, .aload_n 0, .getfield 582, .iconst (-1), .invokestatic 284, .return_])]
/-- ShoeOrchard$State.sizeOf(I)I -/
def P70 : List (Nat × List Instr) := [
  (0, [.aload_n 0, .iload_n 1, .invokevirtual 71, .ifCond .eq 29, .aload_n 0, .getfield 584, .aload_n 0, .getfield 577, .iload_n 1, .iaload, .aload_n 0, .getfield 578, .iload_n 1, .iaload, .aload_n 0, .getfield 576, .invokevirtual 57, .goto 4]),
  (34, [.iconst (-1), .ireturn]),
  (35, [.ireturn])]
/-- ShoeOrchard$State.bears(I)Z -/
def P71 : List (Nat × List Instr) := [
  (0, [.aload_n 0, .getfield 584, .iload_n 1, .aload_n 0, .getfield 584, .aload_n 0, .getfield 576, .invokevirtual 55, .invokevirtual 56, .ireturn])]
/-- ShoeOrchard$State.holders(I)I -/
def P72 : List (Nat × List Instr) := [
  (0, [.iconst 0, .istore_n 2, .iconst 0, .istore_n 3]),
  (4, [.iload_n 3, .aload_n 0, .getfield 584, .getfield 449, .if_icmp .ge 29, .iload_n 2, .aload_n 0, .getfield 581, .iload_n 3, .iaload, .iload_n 1, .if_icmp .ne 9, .iconst 1, .iload_n 3, .ishl, .goto 4]),
  (32, [.iconst 0, .ior, .istore_n 2, .iinc 3 1, .goto (-34)]),
  (33, [.ior, .istore_n 2, .iinc 3 1, .goto (-34)]),
  (41, [.iload_n 2, .ireturn])]
/-- ShoeOrchard$State.suits(II)Z -/
def P73 : List (Nat × List Instr) := [
  (0, [.aload_n 0, .getfield 584, .iload_n 1, .invokevirtual 58, .ifCond .eq 11, .aload_n 0, .iload_n 2, .invokevirtual 71, .ifCond .ne 5, .iconst 0, .ireturn]),
  (19, [.iconst 0, .ireturn]),
  (21, [.aload_n 0, .getfield 584, .aload_n 0, .getfield 577, .iload_n 2, .iaload, .aload_n 0, .getfield 578, .iload_n 2, .iaload, .aload_n 0, .getfield 576, .invokevirtual 57, .istore_n 3, .aload_n 0, .getfield 584, .iload_n 1, .aload_n 0, .getfield 579, .iload_n 1, .iaload, .iload_n 3, .invokevirtual 59, .ifCond .ne 7, .iconst 1, .goto 4]),
  (67, [.iconst 0, .ireturn]),
  (68, [.ireturn])]
/-- ShoeOrchard$State.canTry(II)Z -/
def P74 : List (Nat × List Instr) := [
  (0, [.aload_n 0, .getfield 584, .iload_n 1, .invokevirtual 58, .ifCond .eq 11, .aload_n 0, .iload_n 2, .invokevirtual 71, .ifCond .ne 5, .iconst 0, .ireturn]),
  (19, [.iconst 0, .ireturn]),
  (21, [.aload_n 0, .getfield 581, .iload_n 1, .iaload, .iconst (-1), .if_icmp .ne 31, .aload_n 0, .getfield 580, .iload_n 1, .iaload, .aload_n 0, .getfield 584, .getfield 451, .if_icmp .ge 15, .aload_n 0, .iload_n 2, .invokevirtual 72, .ifCond .ne 7, .iconst 1, .goto 4]),
  (59, [.iconst 0, .ireturn]),
  (60, [.ireturn])]
/-- ShoeOrchard$State.copy(LShoeOrchard$State;)V -/
def P75 : List (Nat × List Instr) := [
  (0, [.aload_n 0, .aload_n 1, .getfield 576, .putfield 576, .aload_n 1, .getfield 577, .iconst 0, .aload_n 0, .getfield 577, .iconst 0, .bipush 6, .invokestatic 900, .aload_n 1, .getfield 578, .iconst 0, .aload_n 0, .getfield 578, .iconst 0, .bipush 6, .invokestatic 900, .aload_n 1, .getfield 579, .iconst 0, .aload_n 0, .getfield 579, .iconst 0, .bipush 6, .invokestatic 900, .aload_n 1, .getfield 580, .iconst 0, .aload_n 0, .getfield 580, .iconst 0, .bipush 6, .invokestatic 900, .aload_n 1, .getfield 581, .iconst 0, .aload_n 0, .getfield 581, .iconst 0, .bipush 6, .invokestatic 900, .aload_n 1, .getfield 582, .iconst 0, .aload_n 0, .getfield 582, .iconst 0, .bipush 6, .invokestatic 900, .aload_n 1, .getfield 583, .iconst 0, .aload_n 0, .getfield 583, .iconst 0, .bipush 6, .invokestatic 900, .return_])]
/-- ShoeOrchard$State.attempt(II)Z -/
def P76 : List (Nat × List Instr) := [
  (0, [.aload_n 0, .iload_n 1, .iload_n 2, .invokevirtual 74, .ifCond .ne 5, .iconst 0, .ireturn]),
  (11, [.aload_n 0, .getfield 580, .iload_n 1, .dup2, .iaload, .iconst 1, .iadd, .iastore, .aload_n 0, .iload_n 1, .iload_n 2, .invokevirtual 73, .ifCond .ne 5, .iconst 0, .ireturn]),
  (32, [.aload_n 0, .iload_n 1, .iload_n 2, .invokevirtual 77, .iconst 1, .ireturn])]
/-- ShoeOrchard$State.putOn(II)V -/
def P77 : List (Nat × List Instr) := [
  (0, [.aload_n 0, .getfield 581, .iload_n 1, .iload_n 2, .iastore, .aload_n 0, .getfield 583, .iload_n 1, .dup2, .iaload, .aload_n 0, .getfield 584, .iload_n 2, .invokevirtual 60, .iadd, .iastore, .return_])]
/-- ShoeOrchard$State.canJoin(II)Z -/
def P78 : List (Nat × List Instr) := [
  (0, [.aload_n 0, .getfield 584, .iload_n 1, .invokevirtual 58, .ifCond .eq 19, .aload_n 0, .getfield 584, .iload_n 2, .invokevirtual 58, .ifCond .eq 8, .iload_n 1, .iload_n 2, .if_icmp .ne 5, .iconst 0, .ireturn]),
  (27, [.iconst 0, .ireturn]),
  (29, [.aload_n 0, .getfield 581, .iload_n 1, .iaload, .iconst (-1), .if_icmp .eq 27, .aload_n 0, .getfield 582, .iload_n 1, .iaload, .iconst (-1), .if_icmp .ne 17, .aload_n 0, .getfield 581, .iload_n 2, .iaload, .iconst (-1), .if_icmp .ne 7, .iconst 1, .goto 4]),
  (63, [.iconst 0, .istore_n 3, .iload_n 3, .ifCond .eq 21, .aload_n 0, .iload_n 2, .aload_n 0, .getfield 581, .iload_n 1, .iaload, .invokevirtual 73, .ifCond .eq 7, .iconst 1, .goto 4]),
  (64, [.istore_n 3, .iload_n 3, .ifCond .eq 21, .aload_n 0, .iload_n 2, .aload_n 0, .getfield 581, .iload_n 1, .iaload, .invokevirtual 73, .ifCond .eq 7, .iconst 1, .goto 4]),
  (87, [.iconst 0, .ireturn]),
  (88, [.ireturn])]
/-- ShoeOrchard$State.join(II)V -/
def P79 : List (Nat × List Instr) := [
  (0, [.aload_n 0, .getfield 584, .iload_n 1, .invokevirtual 58, .ifCond .eq 39, .aload_n 0, .getfield 584, .iload_n 2, .invokevirtual 58, .ifCond .eq 28, .aload_n 0, .iload_n 2, .aload_n 0, .getfield 581, .iload_n 1, .iaload, .invokevirtual 77, .aload_n 0, .getfield 582, .iload_n 1, .iload_n 2, .iastore, .aload_n 0, .getfield 582, .iload_n 2, .iload_n 1, .iastore, .return_]),
  (47, [.return_])]
/-- ShoeOrchard$State.blend(II)V -/
def P80 : List (Nat × List Instr) := [
  (0, [.aload_n 0, .getfield 584, .iload_n 1, .invokevirtual 54, .ifCond .eq 35, .aload_n 0, .getfield 584, .iload_n 2, .invokevirtual 54, .ifCond .eq 24, .aload_n 0, .getfield 577, .iload_n 1, .aload_n 0, .getfield 577, .iload_n 1, .iaload, .aload_n 0, .getfield 577, .iload_n 2, .iaload, .iadd, .iconst 2, .idiv, .iastore, .return_]),
  (43, [.return_])]
/-- ShoeOrchard$State.trim(I)V -/
def P81 : List (Nat × List Instr) := [
  (0, [.aload_n 0, .getfield 584, .iload_n 1, .invokevirtual 54, .ifCond .eq 21, .aload_n 0, .getfield 577, .iload_n 1, .iconst 0, .aload_n 0, .getfield 577, .iload_n 1, .iaload, .iconst 1, .isub, .invokestatic 286, .iastore, .return_]),
  (29, [.return_])]
/-- ShoeOrchard$State.passYear()V -/
def P82 : List (Nat × List Instr) := [
  (0, [.aload_n 0, .aload_n 0, .getfield 584, .aload_n 0, .getfield 576, .invokevirtual 55, .invokevirtual 83, .return_])]
/-- ShoeOrchard$State.passYearOf(I)V -/
def P83 : List (Nat × List Instr) := [
  (0, [.iconst 0, .istore_n 2]),
  (2, [.iload_n 2, .aload_n 0, .getfield 584, .getfield 448, .if_icmp .ge 45, .aload_n 0, .getfield 584, .iload_n 2, .iload_n 1, .invokevirtual 56, .ifCond .ne 8, .aload_n 0, .iload_n 2, .invokevirtual 81, .aload_n 0, .getfield 578, .iload_n 2, .bipush 99, .aload_n 0, .getfield 578, .iload_n 2, .iaload, .iconst 1, .iadd, .invokestatic 287, .iastore, .iinc 2 1, .goto (-50)]),
  (30, [.aload_n 0, .getfield 578, .iload_n 2, .bipush 99, .aload_n 0, .getfield 578, .iload_n 2, .iaload, .iconst 1, .iadd, .invokestatic 287, .iastore, .iinc 2 1, .goto (-50)]),
  (55, [.iconst 0, .istore_n 2]),
  (57, [.iload_n 2, .aload_n 0, .getfield 584, .getfield 449, .if_icmp .ge 41, .aload_n 0, .getfield 584, .getfield 457, .iload_n 2, .iaload, .iconst 1, .if_icmp .ne 22, .aload_n 0, .getfield 579, .iload_n 2, .bipush 40, .aload_n 0, .getfield 579, .iload_n 2, .iaload, .iconst 2, .iadd, .invokestatic 287, .iastore, .iinc 2 1, .goto (-46)]),
  (100, [.iinc 2 1, .goto (-46)]),
  (106, [.aload_n 0, .invokevirtual 69, .aload_n 0, .dup, .getfield 576, .iconst 1, .iadd, .putfield 576, .return_])]
/-- ShoeOrchard$State.allRoad()I -/
def P84 : List (Nat × List Instr) := [
  (0, [.iconst 0, .istore_n 1, .iconst 0, .istore_n 2]),
  (4, [.iload_n 2, .aload_n 0, .getfield 584, .getfield 449, .if_icmp .ge 18, .iload_n 1, .aload_n 0, .getfield 583, .iload_n 2, .iaload, .iadd, .istore_n 1, .iinc 2 1, .goto (-23)]),
  (30, [.iload_n 1, .ireturn])]
/-- ShoeOrchard$State.bearingTrees()I -/
def P85 : List (Nat × List Instr) := [
  (0, [.iconst 0, .istore_n 1, .iconst 0, .istore_n 2]),
  (4, [.iload_n 2, .aload_n 0, .getfield 584, .getfield 448, .if_icmp .ge 27, .iload_n 1, .aload_n 0, .iload_n 2, .invokevirtual 71, .ifCond .eq 9, .iconst 1, .iload_n 2, .ishl, .goto 4]),
  (30, [.iconst 0, .ior, .istore_n 1, .iinc 2 1, .goto (-32)]),
  (31, [.ior, .istore_n 1, .iinc 2 1, .goto (-32)]),
  (39, [.iload_n 1, .ireturn])]
/-- ShoeOrchard$State.shodPersons()I -/
def P86 : List (Nat × List Instr) := [
  (0, [.iconst 0, .istore_n 1, .iconst 0, .istore_n 2]),
  (4, [.iload_n 2, .aload_n 0, .getfield 584, .getfield 449, .if_icmp .ge 29, .iload_n 1, .aload_n 0, .getfield 581, .iload_n 2, .iaload, .iconst (-1), .if_icmp .eq 9, .iconst 1, .iload_n 2, .ishl, .goto 4]),
  (32, [.iconst 0, .ior, .istore_n 1, .iinc 2 1, .goto (-34)]),
  (33, [.ior, .istore_n 1, .iinc 2 1, .goto (-34)]),
  (41, [.iload_n 1, .ireturn])]
/-- ShoeOrchard$Tape.<init>()V -/
def P87 : List (Nat × List Instr) := [
  (0, [.aload_n 0, .invokespecial 900, .aload_n 0, .sipush 1000, .newarray .char, .putfield 645, .return_])]
/-- ShoeOrchard$Tape.add(I)V -/
def P88 : List (Nat × List Instr) := [
  (0, [.iload_n 1, .bipush 10, .if_icmp .eq 15, .iload_n 1, .bipush 32, .if_icmp .lt 13, .iload_n 1, .bipush 126, .if_icmp .gt 7, .iconst 1, .goto 4]),
  (18, [.iconst 1, .goto 4]),
  (22, [.iconst 0, .istore_n 2, .iload_n 2, .ifCond .eq 34, .aload_n 0, .getfield 640, .sipush 1000, .if_icmp .ge 24, .aload_n 0, .getfield 645, .aload_n 0, .getfield 640, .iload_n 1, .i2c, .castore, .aload_n 0, .dup, .getfield 640, .iconst 1, .iadd, .putfield 640, .return_]),
  (23, [.istore_n 2, .iload_n 2, .ifCond .eq 34, .aload_n 0, .getfield 640, .sipush 1000, .if_icmp .ge 24, .aload_n 0, .getfield 645, .aload_n 0, .getfield 640, .iload_n 1, .i2c, .castore, .aload_n 0, .dup, .getfield 640, .iconst 1, .iadd, .putfield 640, .return_]),
  (59, [.return_])]
/-- ShoeOrchard$Tape.beginReading()V -/
def P89 : List (Nat × List Instr) := [
  (0, [.aload_n 0, .iconst 0, .putfield 648, .aload_n 0, .iconst 0, .putfield 644, .aload_n 0, .invokevirtual 90, .return_])]
/-- ShoeOrchard$Tape.next()V -/
def P90 : List (Nat × List Instr) := [
  (0, [.aload_n 0, .getfield 648, .aload_n 0, .getfield 640, .if_icmp .ge 31, .aload_n 0, .getfield 645, .aload_n 0, .getfield 648, .caload, .invokestatic 91, .ifCond .eq 16, .aload_n 0, .dup, .getfield 648, .iconst 1, .iadd, .putfield 648, .goto (-36)]),
  (39, [.aload_n 0, .aload_n 0, .getfield 648, .putfield 647, .aload_n 0, .getfield 648, .aload_n 0, .getfield 640, .if_icmp .lt 11, .aload_n 0, .iconst 0, .putfield 641, .goto 91]),
  (66, [.aload_n 0, .getfield 645, .aload_n 0, .getfield 648, .caload, .invokestatic 92, .ifCond .eq 10, .aload_n 0, .invokevirtual 93, .goto 69]),
  (88, [.aload_n 0, .getfield 645, .aload_n 0, .getfield 648, .caload, .invokestatic 94, .ifCond .eq 10, .aload_n 0, .invokevirtual 95, .goto 47]),
  (110, [.aload_n 0, .aload_n 0, .getfield 645, .aload_n 0, .getfield 648, .caload, .putfield 646, .aload_n 0, .ret 0, .aload_n 0, .getfield 646, .invokevirtual 273, .ifCond .lt 7, .iconst 3, .goto 4]),
  (140, [.iconst 4, .putfield 641, .aload_n 0, .dup, .getfield 648, .iconst 1, .iadd, .putfield 648, .return_]),
  (141, [.putfield 641, .aload_n 0, .dup, .getfield 648, .iconst 1, .iadd, .putfield 648, .return_]),
  (154, [.return_])]
/-- ShoeOrchard$Tape.isBlank(C)Z -/
def P91 : List (Nat × List Instr) := [
  (0, [.iload_n 0, .bipush 10, .if_icmp .eq 9, .iload_n 0, .bipush 32, .if_icmp .ne 7, .iconst 1, .goto 4]),
  (12, [.iconst 1, .goto 4]),
  (16, [.iconst 0, .ireturn]),
  (17, [.ireturn])]
/-- ShoeOrchard$Tape.isLetter(C)Z -/
def P92 : List (Nat × List Instr) := [
  (0, [.iload_n 0, .bipush 97, .if_icmp .lt 13, .iload_n 0, .bipush 122, .if_icmp .gt 7, .iconst 1, .goto 4]),
  (16, [.iconst 0, .ireturn]),
  (17, [.ireturn])]
/-- ShoeOrchard$Tape.readWord()V -/
def P93 : List (Nat × List Instr) := [
  (0, [.aload_n 0, .lconst 0, .putfield 643]),
  (5, [.aload_n 0, .getfield 648, .aload_n 0, .getfield 640, .if_icmp .ge 59, .aload_n 0, .getfield 645, .aload_n 0, .getfield 648, .caload, .invokestatic 92, .ifCond .eq 44, .aload_n 0, .aload_n 0, .getfield 643, .jsr 32, .lmul, .aload_n 0, .getfield 645, .aload_n 0, .getfield 648, .caload, .bipush 97, .isub, .iconst 1, .iadd, .i2l, .ladd, .putfield 643, .aload_n 0, .dup, .getfield 648, .iconst 1, .iadd, .putfield 648, .goto (-64)]),
  (72, [.aload_n 0, .aload_n 0, .getfield 648, .aload_n 0, .getfield 647, .isub, .bipush 8, .if_icmp .gt 7, .iconst 1, .goto 4]),
  (91, [.iconst 4, .putfield 641, .return_]),
  (92, [.putfield 641, .return_])]
/-- ShoeOrchard$Tape.isDigit(C)Z -/
def P94 : List (Nat × List Instr) := [
  (0, [.iload_n 0, .bipush 48, .if_icmp .lt 13, .iload_n 0, .bipush 57, .if_icmp .gt 7, .iconst 1, .goto 4]),
  (16, [.iconst 0, .ireturn]),
  (17, [.ireturn])]
/-- ShoeOrchard$Tape.readNumber()V -/
def P95 : List (Nat × List Instr) := [
  (0, [.aload_n 0, .iconst 0, .putfield 642]),
  (5, [.aload_n 0, .getfield 648, .aload_n 0, .getfield 640, .if_icmp .ge 55, .aload_n 0, .getfield 645, .aload_n 0, .getfield 648, .caload, .invokestatic 94, .ifCond .eq 40, .aload_n 0, .aload_n 0, .getfield 642, .bipush 10, .imul, .aload_n 0, .getfield 645, .aload_n 0, .getfield 648, .caload, .bipush 48, .isub, .iadd, .putfield 642, .aload_n 0, .dup, .getfield 648, .iconst 1, .iadd, .putfield 648, .goto (-60)]),
  (68, [.aload_n 0, .aload_n 0, .getfield 648, .aload_n 0, .getfield 647, .isub, .iconst 4, .if_icmp .gt 7, .iconst 2, .goto 4]),
  (86, [.iconst 4, .putfield 641, .return_]),
  (87, [.putfield 641, .return_])]
/-- ShoeOrchard$Tape.among(Ljava/lang/String;)I -/
def P96 : List (Nat × List Instr) := [
  (0, [.aload_n 0, .getfield 641, .iconst 1, .if_icmp .eq 5, .iconst (-1), .ireturn]),
  (10, [.iconst 0, .istore_n 2, .iconst 0, .istore_n 3, .iconst 0, .istore 4]),
  (17, [.iload 4, .aload_n 1, .invokevirtual 276, .if_icmp .gt 50, .iload 4, .aload_n 1, .invokevirtual 276, .if_icmp .eq 14, .aload_n 1, .iload 4, .invokevirtual 278, .bipush 32, .if_icmp .ne 24, .aload_n 0, .aload_n 1, .iload_n 3, .iload 4, .invokevirtual 97, .ifCond .eq 5, .iload_n 2, .ireturn]),
  (46, [.aload_n 0, .aload_n 1, .iload_n 3, .iload 4, .invokevirtual 97, .ifCond .eq 5, .iload_n 2, .ireturn]),
  (59, [.iinc 2 1, .iload 4, .iconst 1, .iadd, .istore_n 3, .iinc 4 1, .goto (-53)]),
  (67, [.iinc 4 1, .goto (-53)]),
  (73, [.iconst (-1), .ireturn])]
/-- ShoeOrchard$Tape.isPartOf(Ljava/lang/String;II)Z -/
def P97 : List (Nat × List Instr) := [
  (0, [.iload_n 3, .iload_n 2, .isub, .aload_n 0, .getfield 648, .aload_n 0, .getfield 647, .isub, .if_icmp .eq 5, .iconst 0, .ireturn]),
  (17, [.iconst 0, .istore 4]),
  (20, [.iload 4, .iload_n 3, .iload_n 2, .isub, .if_icmp .ge 34, .aload_n 1, .iload_n 2, .iload 4, .iadd, .invokevirtual 278, .aload_n 0, .getfield 645, .aload_n 0, .getfield 647, .iload 4, .iadd, .caload, .if_icmp .eq 5, .iconst 0, .ireturn]),
  (53, [.iinc 4 1, .goto (-36)]),
  (59, [.iconst 1, .ireturn])]
/-- ShoeOrchard$Tape.wrong(I)Z -/
def P98 : List (Nat × List Instr) := [
  (0, [.aload_n 0, .getfield 644, .ifCond .ne 16, .aload_n 0, .iload_n 1, .bipush 16, .aload_n 0, .getfield 647, .imul, .iadd, .putfield 644, .iconst 0, .ireturn]),
  (20, [.iconst 0, .ireturn])]
/-- ShoeOrchard$Tape.isName()Z -/
def P99 : List (Nat × List Instr) := [
  (0, [.aload_n 0, .getfield 641, .iconst 1, .if_icmp .ne 17, .aload_n 0, .ret 2, .invokevirtual 96, .iconst (-1), .if_icmp .ne 7, .iconst 1, .goto 4]),
  (22, [.iconst 0, .ireturn]),
  (23, [.ireturn])]
/-- ShoeOrchard$Tape.takeAmong(Ljava/lang/String;)I -/
def P100 : List (Nat × List Instr) := [
  (0, [.aload_n 0, .aload_n 1, .invokevirtual 96, .istore_n 2, .iload_n 2, .iconst (-1), .if_icmp .ne 12, .aload_n 0, .iconst 1, .invokevirtual 98, .pop, .goto 7]),
  (20, [.aload_n 0, .invokevirtual 90, .iload_n 2, .ireturn]),
  (24, [.iload_n 2, .ireturn])]
/-- ShoeOrchard$Tape.takeWord(Ljava/lang/String;)Z -/
def P101 : List (Nat × List Instr) := [
  (0, [.aload_n 0, .aload_n 1, .invokevirtual 102, .ifCond .ne 9, .aload_n 0, .iconst 1, .invokevirtual 98, .ireturn]),
  (14, [.aload_n 0, .invokevirtual 90, .iconst 1, .ireturn])]
/-- ShoeOrchard$Tape.isWord(Ljava/lang/String;)Z -/
def P102 : List (Nat × List Instr) := [
  (0, [.aload_n 0, .getfield 641, .iconst 1, .if_icmp .ne 20, .aload_n 0, .aload_n 1, .iconst 0, .aload_n 1, .invokevirtual 276, .invokevirtual 97, .ifCond .eq 7, .iconst 1, .goto 4]),
  (25, [.iconst 0, .ireturn]),
  (26, [.ireturn])]
/-- ShoeOrchard$Tape.takeNumber(II)I -/
def P103 : List (Nat × List Instr) := [
  (0, [.aload_n 0, .getfield 641, .iconst 2, .if_icmp .eq 11, .aload_n 0, .iconst 1, .invokevirtual 98, .pop, .iconst (-1), .ireturn]),
  (16, [.aload_n 0, .getfield 642, .iload_n 1, .if_icmp .lt 11, .aload_n 0, .getfield 642, .iload_n 2, .if_icmp .le 11, .aload_n 0, .iconst 4, .invokevirtual 98, .pop, .iconst (-1), .ireturn]),
  (32, [.aload_n 0, .iconst 4, .invokevirtual 98, .pop, .iconst (-1), .ireturn]),
  (40, [.aload_n 0, .getfield 642, .istore_n 3, .aload_n 0, .invokevirtual 90, .iload_n 3, .ireturn])]
/-- ShoeOrchard$Tape.isSign(C)Z -/
def P104 : List (Nat × List Instr) := [
  (0, [.aload_n 0, .getfield 641, .iconst 3, .if_icmp .ne 15, .aload_n 0, .getfield 646, .iload_n 1, .if_icmp .ne 7, .iconst 1, .goto 4]),
  (20, [.iconst 0, .ireturn]),
  (21, [.ireturn])]
/-- ShoeOrchard$Tape.takeSign(C)Z -/
def P105 : List (Nat × List Instr) := [
  (0, [.aload_n 0, .iload_n 1, .invokevirtual 104, .ifCond .ne 9, .aload_n 0, .iconst 1, .invokevirtual 98, .ireturn]),
  (14, [.aload_n 0, .invokevirtual 90, .iconst 1, .ireturn])]
/-- ShoeOrchard$Tape.clear()V -/
def P106 : List (Nat × List Instr) := [
  (0, [.aload_n 0, .iconst 0, .putfield 640, .return_])]
/-- ShoeOrchard.<init>()V -/
def P107 : List (Nat × List Instr) := [
  (0, [.aload_n 0, .invokespecial 900, .aload_n 0, .new 10, .dup, .invokespecial 87, .putfield 704, .aload_n 0, .new 7, .dup, .invokespecial 49, .putfield 705, .aload_n 0, .new 2, .dup, .invokespecial 12, .putfield 706, .aload_n 0, .new 5, .dup, .invokespecial 27, .putfield 707, .aload_n 0, .new 4, .dup, .invokespecial 23, .putfield 708, .aload_n 0, .new 9, .dup, .aload_n 0, .getfield 705, .invokespecial 67, .putfield 709, .aload_n 0, .new 9, .dup, .aload_n 0, .getfield 705, .invokespecial 67, .putfield 710, .aload_n 0, .new 6, .dup, .aload_n 0, .getfield 705, .invokespecial 42, .putfield 711, .aload_n 0, .new 0, .dup, .invokespecial 0, .putfield 712, .aload_n 0, .new 3, .dup, .invokespecial 17, .putfield 713, .aload_n 0, .new 8, .dup, .invokespecial 61, .putfield 714, .aload_n 0, .bipush 6, .newarray .int, .putfield 715, .aload_n 0, .bipush 6, .newarray .long, .putfield 716, .aload_n 0, .getfield 705, .invokevirtual 50, .aload_n 0, .getfield 709, .invokevirtual 68, .return_])]
/-- ShoeOrchard.feed(JJJ)I -/
def P108 : List (Nat × List Instr) := [
  (0, [.aload_n 0, .lload_n 1, .invokevirtual 109, .aload_n 0, .lload_n 3, .invokevirtual 109, .aload_n 0, .lload 5, .invokevirtual 109, .aload_n 0, .getfield 704, .getfield 640, .ireturn])]
/-- ShoeOrchard.feedBytes(J)V -/
def P109 : List (Nat × List Instr) := [
  (0, [.bipush 56, .istore_n 3]),
  (3, [.iload_n 3, .ifCond .lt 24, .aload_n 0, .getfield 704, .lload_n 1, .iload_n 3, .lushr, .jsr 255, .land, .l2i, .invokevirtual 88, .iinc 3 (-8), .goto (-22)]),
  (28, [.return_])]
/-- ShoeOrchard.orchard()I -/
def P110 : List (Nat × List Instr) := [
  (0, [.aload_n 0, .getfield 707, .aload_n 0, .getfield 704, .invokevirtual 28, .istore_n 1, .aload_n 0, .getfield 704, .invokevirtual 106, .iload_n 1, .ifCond .eq 5, .iload_n 1, .ireturn]),
  (25, [.aload_n 0, .getfield 705, .aload_n 0, .getfield 707, .getfield 320, .invokevirtual 53, .aload_n 0, .getfield 709, .invokevirtual 68, .aload_n 0, .getfield 706, .invokevirtual 13, .aload_n 0, .getfield 712, .invokevirtual 1, .aload_n 0, .getfield 711, .invokevirtual 43, .iconst 0, .ireturn])]
/-- ShoeOrchard.morning()I -/
def P111 : List (Nat × List Instr) := [
  (0, [.aload_n 0, .getfield 708, .aload_n 0, .getfield 704, .aload_n 0, .getfield 705, .invokevirtual 24, .istore_n 1, .aload_n 0, .getfield 704, .invokevirtual 106, .iload_n 1, .ifCond .ne 17, .aload_n 0, .getfield 706, .aload_n 0, .getfield 708, .getfield 256, .invokevirtual 15, .iload_n 1, .ireturn]),
  (41, [.iload_n 1, .ireturn])]
/-- ShoeOrchard.tree(II)I -/
def P112 : List (Nat × List Instr) := [
  (0, [.aload_n 0, .getfield 705, .iload_n 1, .invokevirtual 54, .ifCond .ne 6, .bipush (-2), .ireturn]),
  (14, [.iload_n 2, .tableswitch 81 0 4 #[33, 43, 53, 63, 72]]),
  (48, [.aload_n 0, .getfield 705, .getfield 453, .iload_n 1, .iaload, .ireturn]),
  (58, [.aload_n 0, .getfield 709, .getfield 577, .iload_n 1, .iaload, .ireturn]),
  (68, [.aload_n 0, .getfield 709, .getfield 578, .iload_n 1, .iaload, .ireturn]),
  (78, [.aload_n 0, .getfield 709, .iload_n 1, .invokevirtual 70, .ireturn]),
  (87, [.aload_n 0, .getfield 709, .iload_n 1, .invokevirtual 72, .ireturn]),
  (96, [.bipush (-2), .ireturn])]
/-- ShoeOrchard.person(II)I -/
def P113 : List (Nat × List Instr) := [
  (0, [.aload_n 0, .getfield 705, .iload_n 1, .invokevirtual 58, .ifCond .ne 6, .bipush (-2), .ireturn]),
  (14, [.iload_n 2, .tableswitch 97 0 5 #[37, 47, 57, 67, 77, 87]]),
  (52, [.aload_n 0, .getfield 705, .getfield 457, .iload_n 1, .iaload, .ireturn]),
  (62, [.aload_n 0, .getfield 709, .getfield 579, .iload_n 1, .iaload, .ireturn]),
  (72, [.aload_n 0, .getfield 709, .getfield 581, .iload_n 1, .iaload, .ireturn]),
  (82, [.aload_n 0, .getfield 709, .getfield 580, .iload_n 1, .iaload, .ireturn]),
  (92, [.aload_n 0, .getfield 709, .getfield 583, .iload_n 1, .iaload, .ireturn]),
  (102, [.aload_n 0, .getfield 709, .getfield 582, .iload_n 1, .iaload, .ireturn]),
  (112, [.bipush (-2), .ireturn])]
/-- ShoeOrchard.fits(II)Z -/
def P114 : List (Nat × List Instr) := [
  (0, [.aload_n 0, .getfield 709, .iload_n 1, .iload_n 2, .invokevirtual 73, .ireturn])]
/-- ShoeOrchard.tryOn(II)I -/
def P115 : List (Nat × List Instr) := [
  (0, [.aload_n 0, .getfield 709, .iload_n 1, .iload_n 2, .invokevirtual 74, .ifCond .ne 5, .iconst (-1), .ireturn]),
  (14, [.aload_n 0, .getfield 711, .aload_n 0, .getfield 709, .invokevirtual 44, .aload_n 0, .getfield 709, .iload_n 1, .iload_n 2, .invokevirtual 76, .ifCond .eq 7, .iconst 1, .goto 4]),
  (41, [.iconst 0, .ireturn]),
  (42, [.ireturn])]
/-- ShoeOrchard.share(II)Z -/
def P116 : List (Nat × List Instr) := [
  (0, [.aload_n 0, .getfield 709, .iload_n 1, .iload_n 2, .invokevirtual 78, .ifCond .ne 5, .iconst 0, .ireturn]),
  (14, [.aload_n 0, .getfield 711, .aload_n 0, .getfield 709, .invokevirtual 44, .aload_n 0, .getfield 709, .iload_n 1, .iload_n 2, .invokevirtual 79, .iconst 1, .ireturn])]
/-- ShoeOrchard.graft(II)I -/
def P117 : List (Nat × List Instr) := [
  (0, [.aload_n 0, .getfield 705, .iload_n 1, .invokevirtual 54, .ifCond .eq 19, .aload_n 0, .getfield 705, .iload_n 2, .invokevirtual 54, .ifCond .eq 8, .iload_n 1, .iload_n 2, .if_icmp .ne 5, .iconst (-1), .ireturn]),
  (27, [.iconst (-1), .ireturn]),
  (29, [.aload_n 0, .getfield 711, .aload_n 0, .getfield 709, .invokevirtual 44, .aload_n 0, .getfield 709, .iload_n 1, .iload_n 2, .invokevirtual 80, .aload_n 0, .getfield 709, .getfield 577, .iload_n 1, .iaload, .ireturn])]
/-- ShoeOrchard.prune(I)I -/
def P118 : List (Nat × List Instr) := [
  (0, [.aload_n 0, .getfield 705, .iload_n 1, .invokevirtual 54, .ifCond .ne 5, .iconst (-1), .ireturn]),
  (13, [.aload_n 0, .getfield 711, .aload_n 0, .getfield 709, .invokevirtual 44, .aload_n 0, .getfield 709, .iload_n 1, .invokevirtual 81, .aload_n 0, .getfield 709, .getfield 577, .iload_n 1, .iaload, .ireturn])]
/-- ShoeOrchard.year()I -/
def P119 : List (Nat × List Instr) := [
  (0, [.aload_n 0, .getfield 711, .aload_n 0, .getfield 709, .invokevirtual 44, .aload_n 0, .getfield 709, .invokevirtual 82, .aload_n 0, .getfield 709, .getfield 576, .ireturn])]
/-- ShoeOrchard.undo()Z -/
def P120 : List (Nat × List Instr) := [
  (0, [.aload_n 0, .getfield 711, .aload_n 0, .getfield 709, .invokevirtual 46, .ireturn])]
/-- ShoeOrchard.judged(I)I -/
def P121 : List (Nat × List Instr) := [
  (0, [.iload_n 1, .ifCond .lt 8, .iload_n 1, .iconst 2, .if_icmp .le 6, .bipush (-2), .ireturn]),
  (9, [.bipush (-2), .ireturn]),
  (12, [.aload_n 0, .getfield 710, .invokevirtual 68, .iconst (-1), .istore_n 2, .iconst (-1), .istore_n 3, .iconst 0, .istore 4]),
  (26, [.iload 4, .aload_n 0, .getfield 706, .getfield 128, .if_icmp .ge 51, .aload_n 0, .getfield 706, .iload 4, .aload_n 0, .getfield 710, .invokevirtual 16, .istore 5, .iload 5, .iconst (-1), .if_icmp .ne 11, .iload_n 2, .iconst (-1), .if_icmp .ne 6, .iload 4, .istore_n 2, .iload 5, .ifCond .ne 11, .iload_n 3, .iconst (-1), .if_icmp .ne 6, .iload 4, .istore_n 3, .iinc 4 1, .goto (-57)]),
  (67, [.iload 5, .ifCond .ne 11, .iload_n 3, .iconst (-1), .if_icmp .ne 6, .iload 4, .istore_n 3, .iinc 4 1, .goto (-57)]),
  (80, [.iinc 4 1, .goto (-57)]),
  (86, [.iload_n 1, .ifCond .ne 5, .iload_n 2, .ireturn]),
  (92, [.iload_n 1, .iconst 1, .if_icmp .ne 7, .iload_n 3, .goto 10]),
  (101, [.aload_n 0, .getfield 710, .invokevirtual 84, .ireturn]),
  (108, [.ireturn])]
/-- ShoeOrchard.fitted(I)I -/
def P122 : List (Nat × List Instr) := [
  (0, [.aload_n 0, .getfield 705, .iload_n 1, .invokevirtual 58, .ifCond .ne 5, .iconst (-1), .ireturn]),
  (13, [.aload_n 0, .aload_n 0, .getfield 709, .invokevirtual 123, .aload_n 0, .aload_n 0, .getfield 709, .iload_n 1, .invokevirtual 124, .ireturn])]
/-- ShoeOrchard.measure(LShoeOrchard$State;)V -/
def P123 : List (Nat × List Instr) := [
  (0, [.iconst 0, .istore_n 2]),
  (2, [.iload_n 2, .aload_n 0, .getfield 705, .getfield 448, .if_icmp .ge 20, .aload_n 0, .getfield 715, .iload_n 2, .aload_n 1, .iload_n 2, .invokevirtual 70, .iastore, .iinc 2 1, .goto (-25)]),
  (30, [.return_])]
/-- ShoeOrchard.fittingTrees(LShoeOrchard$State;I)I -/
def P124 : List (Nat × List Instr) := [
  (0, [.iconst 0, .istore_n 3, .iconst 0, .istore 4]),
  (5, [.iload 4, .aload_n 0, .getfield 705, .getfield 448, .if_icmp .ge 51, .aload_n 0, .getfield 715, .iload 4, .iaload, .iconst (-1), .if_icmp .eq 34, .aload_n 0, .getfield 705, .iload_n 2, .aload_n 1, .getfield 579, .iload_n 2, .iaload, .aload_n 0, .getfield 715, .iload 4, .iaload, .invokevirtual 59, .ifCond .ne 10, .iload_n 3, .iconst 1, .iload 4, .ishl, .ior, .istore_n 3, .iinc 4 1, .goto (-57)]),
  (59, [.iinc 4 1, .goto (-57)]),
  (65, [.iload_n 3, .ireturn])]
/-- ShoeOrchard.wearers(I)I -/
def P125 : List (Nat × List Instr) := [
  (0, [.aload_n 0, .getfield 709, .iload_n 1, .invokevirtual 71, .ifCond .ne 5, .iconst (-1), .ireturn]),
  (13, [.aload_n 0, .aload_n 0, .getfield 709, .iload_n 1, .invokevirtual 70, .invokevirtual 126, .ireturn])]
/-- ShoeOrchard.fittingPersons(I)I -/
def P126 : List (Nat × List Instr) := [
  (0, [.iconst 0, .istore_n 2, .iconst 0, .istore_n 3]),
  (4, [.iload_n 3, .aload_n 0, .getfield 705, .getfield 449, .if_icmp .ge 36, .aload_n 0, .getfield 705, .iload_n 3, .aload_n 0, .getfield 709, .getfield 579, .iload_n 3, .iaload, .iload_n 1, .invokevirtual 59, .ifCond .ne 9, .iload_n 2, .iconst 1, .iload_n 3, .ishl, .ior, .istore_n 2, .iinc 3 1, .goto (-41)]),
  (42, [.iinc 3 1, .goto (-41)]),
  (48, [.iload_n 2, .ireturn])]
/-- ShoeOrchard.shoes(I)I -/
def P127 : List (Nat × List Instr) := [
  (0, [.aload_n 0, .iload_n 1, .iconst 0, .invokevirtual 128, .ireturn])]
/-- ShoeOrchard.matched(IZ)I -/
def P128 : List (Nat × List Instr) := [
  (0, [.iload_n 1, .iconst (-1), .if_icmp .eq 17, .aload_n 0, .getfield 705, .iload_n 1, .invokevirtual 58, .ifCond .ne 6, .bipush (-2), .ireturn]),
  (19, [.aload_n 0, .aload_n 0, .getfield 709, .invokevirtual 123, .aload_n 0, .invokevirtual 129, .istore_n 3, .aload_n 0, .getfield 713, .aload_n 0, .getfield 705, .getfield 449, .aload_n 0, .getfield 705, .getfield 448, .invokevirtual 18, .iconst 0, .istore 4]),
  (56, [.iload 4, .aload_n 0, .getfield 705, .getfield 448, .if_icmp .ge 36, .aload_n 0, .getfield 713, .getfield 194, .iload 4, .iload_n 2, .ifCond .eq 15, .aload_n 0, .getfield 705, .iload 4, .invokevirtual 60, .goto 4]),
  (93, [.iconst 1, .iastore, .iinc 4 1, .goto (-42)]),
  (94, [.iastore, .iinc 4 1, .goto (-42)]),
  (101, [.iconst 0, .istore 4]),
  (104, [.iload 4, .aload_n 0, .getfield 705, .getfield 449, .if_icmp .ge 61, .aload_n 0, .getfield 709, .getfield 581, .iload 4, .iaload, .iconst (-1), .if_icmp .ne 7, .iconst 1, .goto 4]),
  (134, [.iconst 0, .istore 5, .aload_n 0, .getfield 713, .getfield 193, .iload 4, .iload 5, .ifCond .eq 18, .aload_n 0, .aload_n 0, .getfield 709, .iload 4, .invokevirtual 124, .iload_n 3, .iand, .goto 4]),
  (135, [.istore 5, .aload_n 0, .getfield 713, .getfield 193, .iload 4, .iload 5, .ifCond .eq 18, .aload_n 0, .aload_n 0, .getfield 709, .iload 4, .invokevirtual 124, .iload_n 3, .iand, .goto 4]),
  (166, [.iconst 0, .iastore, .iinc 4 1, .goto (-67)]),
  (167, [.iastore, .iinc 4 1, .goto (-67)]),
  (174, [.aload_n 0, .getfield 713, .invokevirtual 19, .iload_n 1, .iconst (-1), .if_icmp .ne 13, .aload_n 0, .getfield 713, .getfield 192, .goto 12]),
  (196, [.aload_n 0, .getfield 713, .getfield 195, .iload_n 1, .iaload, .ireturn]),
  (205, [.ireturn])]
/-- ShoeOrchard.freeTrees()I -/
def P129 : List (Nat × List Instr) := [
  (0, [.aload_n 0, .getfield 709, .invokevirtual 85, .istore_n 1, .iconst 0, .istore_n 2]),
  (10, [.iload_n 2, .aload_n 0, .getfield 705, .getfield 448, .if_icmp .ge 28, .aload_n 0, .getfield 709, .iload_n 2, .invokevirtual 72, .ifCond .eq 11, .iload_n 1, .iconst 1, .iload_n 2, .ishl, .iconst (-1), .ixor, .iand, .istore_n 1, .iinc 2 1, .goto (-33)]),
  (40, [.iinc 2 1, .goto (-33)]),
  (46, [.iload_n 1, .ireturn])]
/-- ShoeOrchard.roads(I)I -/
def P130 : List (Nat × List Instr) := [
  (0, [.aload_n 0, .iload_n 1, .iconst 1, .invokevirtual 128, .ireturn])]
/-- ShoeOrchard.order(I)I -/
def P131 : List (Nat × List Instr) := [
  (0, [.aload_n 0, .aload_n 0, .getfield 709, .invokevirtual 123, .aload_n 0, .getfield 714, .aload_n 0, .getfield 705, .getfield 451, .aload_n 0, .getfield 705, .getfield 448, .invokevirtual 62, .iconst 0, .istore_n 2]),
  (31, [.iload_n 2, .aload_n 0, .getfield 705, .getfield 449, .if_icmp .ge 48, .aload_n 0, .getfield 709, .getfield 581, .iload_n 2, .iaload, .iconst (-1), .if_icmp .ne 29, .aload_n 0, .getfield 714, .iload_n 2, .aload_n 0, .getfield 709, .getfield 580, .iload_n 2, .iaload, .aload_n 0, .aload_n 0, .getfield 709, .iload_n 2, .invokevirtual 124, .invokevirtual 63, .iinc 2 1, .goto (-53)]),
  (81, [.iinc 2 1, .goto (-53)]),
  (87, [.aload_n 0, .getfield 714, .aload_n 0, .invokevirtual 129, .invokevirtual 64, .iload_n 1, .iconst (-1), .if_icmp .ne 11, .aload_n 0, .getfield 714, .getfield 513, .ireturn]),
  (111, [.iload_n 1, .ifCond .lt 26, .iload_n 1, .aload_n 0, .getfield 714, .getfield 512, .if_icmp .ge 15, .aload_n 0, .getfield 714, .getfield 514, .iload_n 1, .iaload, .goto 5]),
  (138, [.bipush (-2), .ireturn]),
  (140, [.ireturn])]
/-- ShoeOrchard.mends(I)I -/
def P132 : List (Nat × List Instr) := [
  (0, [.aload_n 0, .getfield 705, .iload_n 1, .invokevirtual 58, .ifCond .ne 5, .iconst (-1), .ireturn]),
  (13, [.aload_n 0, .iload_n 1, .invokevirtual 133, .aload_n 0, .getfield 710, .aload_n 0, .getfield 709, .invokevirtual 75, .iconst 0, .istore_n 2]),
  (31, [.iload_n 2, .iconst 2, .if_icmp .gt 19, .aload_n 0, .iload_n 2, .invokevirtual 135, .ifCond .eq 5, .iload_n 2, .ireturn]),
  (46, [.iinc 2 1, .goto (-18)]),
  (52, [.iconst (-1), .ireturn])]
/-- ShoeOrchard.findFittingLasts(I)V -/
def P133 : List (Nat × List Instr) := [
  (0, [.iconst 0, .istore_n 2]),
  (2, [.iload_n 2, .aload_n 0, .getfield 705, .getfield 448, .if_icmp .ge 36, .aload_n 0, .getfield 716, .iload_n 2, .aload_n 0, .getfield 709, .iload_n 2, .invokevirtual 71, .ifCond .eq 12, .aload_n 0, .iload_n 1, .iload_n 2, .invokevirtual 134, .goto 4]),
  (38, [.lconst 0, .lastore, .iinc 2 1, .goto (-41)]),
  (39, [.lastore, .iinc 2 1, .goto (-41)]),
  (46, [.return_])]
/-- ShoeOrchard.lastsThatFit(II)J -/
def P134 : List (Nat × List Instr) := [
  (0, [.lconst 0, .lstore_n 3, .iconst 0, .istore 5]),
  (5, [.iload 5, .bipush 30, .if_icmp .gt 65, .aload_n 0, .getfield 705, .iload 5, .aload_n 0, .getfield 709, .getfield 578, .iload_n 2, .iaload, .aload_n 0, .getfield 709, .getfield 576, .invokevirtual 57, .istore 6, .aload_n 0, .getfield 705, .iload_n 1, .aload_n 0, .getfield 709, .getfield 579, .iload_n 1, .iaload, .iload 6, .invokevirtual 59, .ifCond .ne 10, .lload_n 3, .lconst 1, .iload 5, .lshl, .lor, .lstore_n 3, .iinc 5 1, .goto (-66)]),
  (68, [.iinc 5 1, .goto (-66)]),
  (74, [.lload_n 3, .lreturn])]
/-- ShoeOrchard.mendable(I)Z -/
def P135 : List (Nat × List Instr) := [
  (0, [.aload_n 0, .invokevirtual 136, .ifCond .eq 5, .iconst 1, .ireturn]),
  (9, [.iload_n 1, .ifCond .gt 5, .iconst 0, .ireturn]),
  (15, [.iconst 0, .istore_n 2]),
  (17, [.iload_n 2, .aload_n 0, .getfield 705, .getfield 448, .if_icmp .ge 93, .aload_n 0, .getfield 710, .getfield 577, .iload_n 2, .iaload, .istore_n 3, .iconst 0, .istore 4]),
  (41, [.iload 4, .aload_n 0, .getfield 705, .getfield 448, .if_icmp .ge 62, .iload 4, .iload_n 2, .if_icmp .ne 14, .aload_n 0, .getfield 710, .iload_n 2, .invokevirtual 81, .goto 13]),
  (70, [.aload_n 0, .getfield 710, .iload_n 2, .iload 4, .invokevirtual 80, .aload_n 0, .iload_n 1, .iconst 1, .isub, .invokevirtual 135, .istore 5, .aload_n 0, .getfield 710, .getfield 577, .iload_n 2, .iload_n 3, .iastore, .iload 5, .ifCond .eq 5, .iconst 1, .ireturn]),
  (80, [.aload_n 0, .iload_n 1, .iconst 1, .isub, .invokevirtual 135, .istore 5, .aload_n 0, .getfield 710, .getfield 577, .iload_n 2, .iload_n 3, .iastore, .iload 5, .ifCond .eq 5, .iconst 1, .ireturn]),
  (106, [.iinc 4 1, .goto (-68)]),
  (112, [.iinc 2 1, .goto (-98)]),
  (118, [.iconst 0, .ireturn])]
/-- ShoeOrchard.someLastFits()Z -/
def P136 : List (Nat × List Instr) := [
  (0, [.iconst 0, .istore_n 1]),
  (2, [.iload_n 1, .aload_n 0, .getfield 705, .getfield 448, .if_icmp .ge 34, .aload_n 0, .getfield 716, .iload_n 1, .laload, .aload_n 0, .getfield 710, .getfield 577, .iload_n 1, .iaload, .lushr, .lconst 1, .land, .lconst 0, .lcmp, .ifCond .eq 5, .iconst 1, .ireturn]),
  (38, [.iinc 1 1, .goto (-39)]),
  (44, [.iconst 0, .ireturn])]
/-- ShoeOrchard.when(I)I -/
def P137 : List (Nat × List Instr) := [
  (0, [.aload_n 0, .getfield 705, .iload_n 1, .invokevirtual 58, .ifCond .ne 5, .iconst (-1), .ireturn]),
  (13, [.aload_n 0, .getfield 710, .aload_n 0, .getfield 709, .invokevirtual 75, .iconst 0, .istore_n 2]),
  (26, [.iload_n 2, .bipush 40, .if_icmp .gt 38, .aload_n 0, .aload_n 0, .getfield 710, .invokevirtual 123, .aload_n 0, .aload_n 0, .getfield 710, .iload_n 1, .invokevirtual 124, .ifCond .eq 5, .iload_n 2, .ireturn]),
  (54, [.aload_n 0, .getfield 710, .invokevirtual 82, .iinc 2 1, .goto (-38)]),
  (67, [.iconst (-1), .ireturn])]
/-- ShoeOrchard.later(II)I -/
def P138 : List (Nat × List Instr) := [
  (0, [.aload_n 0, .getfield 705, .iload_n 1, .invokevirtual 54, .ifCond .eq 13, .iload_n 2, .ifCond .lt 9, .iload_n 2, .bipush 40, .if_icmp .le 5, .iconst (-1), .ireturn]),
  (21, [.iconst (-1), .ireturn]),
  (23, [.aload_n 0, .getfield 710, .aload_n 0, .getfield 709, .invokevirtual 75, .iconst 0, .istore_n 3]),
  (36, [.iload_n 3, .iload_n 2, .if_icmp .ge 16, .aload_n 0, .getfield 710, .invokevirtual 82, .iinc 3 1, .goto (-15)]),
  (54, [.aload_n 0, .getfield 710, .iload_n 1, .invokevirtual 70, .ireturn])]
/-- ShoeOrchard.feel(IZ)Z -/
def P139 : List (Nat × List Instr) := [
  (0, [.aload_n 0, .getfield 705, .iload_n 1, .invokevirtual 54, .ifCond .eq 19, .aload_n 0, .getfield 712, .iload_n 1, .iload_n 2, .invokevirtual 2, .ifCond .eq 7, .iconst 1, .goto 4]),
  (27, [.iconst 0, .ireturn]),
  (28, [.ireturn])]
/-- ShoeOrchard.feet(I)I -/
def P140 : List (Nat × List Instr) := [
  (0, [.iload_n 1, .ifCond .lt 8, .iload_n 1, .iconst 2, .if_icmp .le 5, .iconst (-1), .ireturn]),
  (9, [.iconst (-1), .ireturn]),
  (11, [.aload_n 0, .aload_n 0, .getfield 709, .invokevirtual 123, .iconst 0, .istore_n 2, .iconst (-1), .istore_n 3, .iconst (-1), .istore 4, .iconst 0, .istore 5]),
  (29, [.iload 5, .bipush 40, .if_icmp .gt 51, .aload_n 0, .getfield 712, .iload 5, .aload_n 0, .getfield 715, .aload_n 0, .getfield 705, .getfield 450, .invokevirtual 3, .ifCond .eq 22, .iinc 2 1, .iload_n 3, .iconst (-1), .if_icmp .ne 8, .iload 5, .goto 4]),
  (72, [.iload_n 3, .istore_n 3, .iload 5, .istore 4, .iinc 5 1, .goto (-52)]),
  (73, [.istore_n 3, .iload 5, .istore 4, .iinc 5 1, .goto (-52)]),
  (78, [.iinc 5 1, .goto (-52)]),
  (84, [.iload_n 1, .ifCond .ne 5, .iload_n 2, .ireturn]),
  (90, [.iload_n 1, .iconst 1, .if_icmp .ne 7, .iload_n 3, .goto 5]),
  (99, [.iload 4, .ireturn]),
  (101, [.ireturn])]
/-- ShoeOrchard.ask()I -/
def P141 : List (Nat × List Instr) := [
  (0, [.aload_n 0, .aload_n 0, .getfield 709, .invokevirtual 123, .iconst 0, .istore_n 1, .iconst 0, .istore_n 2]),
  (12, [.iload_n 2, .bipush 40, .if_icmp .gt 39, .iload_n 1, .aload_n 0, .getfield 712, .iload_n 2, .aload_n 0, .getfield 715, .aload_n 0, .getfield 705, .getfield 450, .invokevirtual 3, .ifCond .eq 7, .iconst 1, .goto 4]),
  (45, [.iconst 0, .iadd, .istore_n 1, .iinc 2 1, .goto (-39)]),
  (46, [.iadd, .istore_n 1, .iinc 2 1, .goto (-39)]),
  (54, [.iconst (-1), .istore_n 2, .iload_n 1, .istore_n 3, .iconst 0, .istore 4]),
  (61, [.iload 4, .aload_n 0, .getfield 705, .getfield 448, .if_icmp .ge 56, .aload_n 0, .getfield 715, .iload 4, .iaload, .iconst (-1), .if_icmp .eq 39, .aload_n 0, .aload_n 0, .getfield 715, .iload 4, .iaload, .invokevirtual 142, .istore 5, .iload 5, .iload_n 1, .iload 5, .isub, .invokestatic 286, .istore 6, .iload 6, .iload_n 3, .if_icmp .ge 9, .iload 6, .istore_n 3, .iload 4, .istore_n 2, .iinc 4 1, .goto (-62)]),
  (120, [.iinc 4 1, .goto (-62)]),
  (126, [.iload_n 2, .ireturn])]
/-- ShoeOrchard.allowedFeetFitting(I)I -/
def P142 : List (Nat × List Instr) := [
  (0, [.iconst 0, .istore_n 2, .iconst 0, .istore_n 3]),
  (4, [.iload_n 3, .bipush 40, .if_icmp .gt 50, .iload_n 1, .iload_n 3, .isub, .invokestatic 288, .aload_n 0, .getfield 705, .getfield 450, .if_icmp .gt 28, .aload_n 0, .getfield 712, .iload_n 3, .aload_n 0, .getfield 715, .aload_n 0, .getfield 705, .getfield 450, .invokevirtual 3, .ifCond .eq 6, .iinc 2 1, .iinc 3 1, .goto (-50)]),
  (51, [.iinc 3 1, .goto (-50)]),
  (57, [.iload_n 2, .ireturn])]
/-- ShoeOrchard.pairs()I -/
def P143 : List (Nat × List Instr) := [
  (0, [.aload_n 0, .aload_n 0, .getfield 709, .invokevirtual 123, .iconst 0, .istore_n 1, .iconst 0, .istore_n 2]),
  (12, [.iload_n 2, .aload_n 0, .getfield 705, .getfield 449, .if_icmp .ge 65, .aload_n 0, .aload_n 0, .getfield 709, .iload_n 2, .invokevirtual 124, .istore_n 3, .iload_n 2, .iconst 1, .iadd, .istore 4]),
  (38, [.iload 4, .aload_n 0, .getfield 705, .getfield 449, .if_icmp .ge 32, .iload_n 1, .iload_n 3, .aload_n 0, .aload_n 0, .getfield 709, .iload 4, .invokevirtual 124, .iand, .ifCond .eq 7, .iconst 1, .goto 4]),
  (70, [.iconst 0, .iadd, .istore_n 1, .iinc 4 1, .goto (-38)]),
  (71, [.iadd, .istore_n 1, .iinc 4 1, .goto (-38)]),
  (79, [.iinc 2 1, .goto (-70)]),
  (85, [.iload_n 1, .ireturn])]
/-- ShoeOrchard.idle()I -/
def P144 : List (Nat × List Instr) := [
  (0, [.aload_n 0, .aload_n 0, .getfield 709, .invokevirtual 123, .iconst 0, .istore_n 1, .iconst 0, .istore_n 2]),
  (12, [.iload_n 2, .aload_n 0, .getfield 705, .getfield 448, .if_icmp .ge 38, .aload_n 0, .getfield 715, .iload_n 2, .iaload, .iconst (-1), .if_icmp .eq 22, .aload_n 0, .aload_n 0, .getfield 715, .iload_n 2, .iaload, .invokevirtual 126, .ifCond .ne 9, .iload_n 1, .iconst 1, .iload_n 2, .ishl, .ior, .istore_n 1, .iinc 2 1, .goto (-43)]),
  (52, [.iinc 2 1, .goto (-43)]),
  (58, [.iload_n 1, .ireturn])]
/-- ShoeOrchard.sole()I -/
def P145 : List (Nat × List Instr) := [
  (0, [.aload_n 0, .aload_n 0, .getfield 709, .invokevirtual 123, .iconst 0, .istore_n 1, .iconst 0, .istore_n 2]),
  (12, [.iload_n 2, .aload_n 0, .getfield 705, .getfield 449, .if_icmp .ge 31, .aload_n 0, .aload_n 0, .getfield 709, .iload_n 2, .invokevirtual 124, .invokestatic 285, .iconst 1, .if_icmp .ne 9, .iload_n 1, .iconst 1, .iload_n 2, .ishl, .ior, .istore_n 1, .iinc 2 1, .goto (-36)]),
  (45, [.iinc 2 1, .goto (-36)]),
  (51, [.iload_n 1, .ireturn])]
/-- ShoeOrchard.twins()I -/
def P146 : List (Nat × List Instr) := [
  (0, [.aload_n 0, .aload_n 0, .getfield 709, .invokevirtual 123, .iconst 0, .istore_n 1, .iconst 0, .istore_n 2]),
  (12, [.iload_n 2, .aload_n 0, .getfield 705, .getfield 448, .if_icmp .ge 63, .iload_n 2, .iconst 1, .iadd, .istore_n 3]),
  (27, [.iload_n 3, .aload_n 0, .getfield 705, .getfield 448, .if_icmp .ge 42, .iload_n 1, .aload_n 0, .getfield 715, .iload_n 2, .iaload, .iconst (-1), .if_icmp .eq 22, .aload_n 0, .getfield 715, .iload_n 2, .iaload, .aload_n 0, .getfield 715, .iload_n 3, .iaload, .if_icmp .ne 7, .iconst 1, .goto 4]),
  (68, [.iconst 0, .iadd, .istore_n 1, .iinc 3 1, .goto (-47)]),
  (69, [.iadd, .istore_n 1, .iinc 3 1, .goto (-47)]),
  (77, [.iinc 2 1, .goto (-68)]),
  (83, [.iload_n 1, .ireturn])]
/-- ShoeOrchard.best()I -/
def P147 : List (Nat × List Instr) := [
  (0, [.aload_n 0, .aload_n 0, .getfield 709, .invokevirtual 123, .iconst (-1), .istore_n 1, .iconst (-1), .istore_n 2, .iconst 0, .istore_n 3]),
  (14, [.iload_n 3, .aload_n 0, .getfield 705, .getfield 448, .if_icmp .ge 45, .aload_n 0, .getfield 715, .iload_n 3, .iaload, .iconst (-1), .if_icmp .eq 29, .aload_n 0, .aload_n 0, .getfield 715, .iload_n 3, .iaload, .invokevirtual 126, .invokestatic 285, .istore 4, .iload 4, .iload_n 2, .if_icmp .le 8, .iload 4, .istore_n 2, .iload_n 3, .istore_n 1, .iinc 3 1, .goto (-50)]),
  (61, [.iinc 3 1, .goto (-50)]),
  (67, [.iload_n 1, .ireturn])]
/-- ShoeOrchard.lack(I)I -/
def P148 : List (Nat × List Instr) := [
  (0, [.aload_n 0, .getfield 705, .iload_n 1, .invokevirtual 58, .ifCond .ne 5, .iconst (-1), .ireturn]),
  (13, [.aload_n 0, .aload_n 0, .getfield 709, .invokevirtual 123, .iconst (-1), .istore_n 2, .iconst 0, .istore_n 3]),
  (25, [.iload_n 3, .aload_n 0, .getfield 705, .getfield 448, .if_icmp .ge 61, .aload_n 0, .getfield 715, .iload_n 3, .iaload, .iconst (-1), .if_icmp .eq 45, .aload_n 0, .getfield 705, .iload_n 1, .aload_n 0, .getfield 709, .getfield 579, .iload_n 1, .iaload, .aload_n 0, .getfield 715, .iload_n 3, .iaload, .invokevirtual 59, .istore 4, .iload_n 2, .iconst (-1), .if_icmp .ne 8, .iload 4, .goto 9]),
  (81, [.iload_n 2, .iload 4, .invokestatic 287, .istore_n 2, .iinc 3 1, .goto (-66)]),
  (87, [.istore_n 2, .iinc 3 1, .goto (-66)]),
  (88, [.iinc 3 1, .goto (-66)]),
  (94, [.iload_n 2, .ireturn])]
/-- ShoeOrchard.chance(III)I -/
def P149 : List (Nat × List Instr) := [
  (0, [.iload_n 2, .iconst 1, .if_icmp .lt 23, .iload_n 2, .bipush 6, .if_icmp .gt 17, .iload_n 3, .ifCond .lt 13, .iload_n 3, .bipush 10, .if_icmp .gt 7, .iconst 1, .goto 4]),
  (25, [.iconst 0, .istore 4, .iload 4, .ifCond .eq 14, .aload_n 0, .getfield 705, .iload_n 1, .invokevirtual 58, .ifCond .ne 5, .iconst (-1), .ireturn]),
  (26, [.istore 4, .iload 4, .ifCond .eq 14, .aload_n 0, .getfield 705, .iload_n 1, .invokevirtual 58, .ifCond .ne 5, .iconst (-1), .ireturn]),
  (44, [.iconst (-1), .ireturn]),
  (46, [.iconst 0, .istore 5, .iconst 0, .istore 6]),
  (52, [.iload 6, .iload_n 2, .if_icmp .gt 86, .aload_n 0, .getfield 710, .aload_n 0, .getfield 709, .invokevirtual 75, .iconst 0, .istore 7]),
  (72, [.iload 7, .iload_n 2, .if_icmp .ge 28, .aload_n 0, .getfield 710, .iload 7, .iload 6, .if_icmp .ge 7, .iconst 3, .goto 4]),
  (93, [.iconst 0, .invokevirtual 83, .iinc 7 1, .goto (-28)]),
  (94, [.invokevirtual 83, .iinc 7 1, .goto (-28)]),
  (103, [.aload_n 0, .aload_n 0, .getfield 710, .invokevirtual 123, .aload_n 0, .aload_n 0, .getfield 710, .iload_n 1, .invokevirtual 124, .ifCond .eq 15, .iload 5, .iload 6, .iload_n 2, .iload_n 3, .invokestatic 150, .iadd, .istore 5, .iinc 6 1, .goto (-86)]),
  (135, [.iinc 6 1, .goto (-86)]),
  (141, [.iload 5, .ireturn])]
/-- ShoeOrchard.likelihood(III)I -/
def P150 : List (Nat × List Instr) := [
  (0, [.iconst 1, .istore_n 3, .iconst 1, .istore 4, .iconst 0, .istore 5]),
  (8, [.iload 5, .bipush 6, .if_icmp .ge 56, .iload 5, .iload_n 0, .if_icmp .ge 24, .iload_n 3, .iload_n 1, .iload 5, .isub, .imul, .iload 5, .iconst 1, .iadd, .idiv, .istore_n 3, .iload 4, .iload_n 2, .imul, .istore 4, .goto 23]),
  (42, [.iload 4, .iload 5, .iload_n 1, .if_icmp .ge 10, .bipush 10, .iload_n 2, .isub, .goto 5]),
  (57, [.bipush 10, .imul, .istore 4, .iinc 5 1, .goto (-57)]),
  (59, [.imul, .istore 4, .iinc 5 1, .goto (-57)]),
  (62, [.iinc 5 1, .goto (-57)]),
  (68, [.iload_n 3, .iload 4, .imul, .ireturn])]
/-- ShoeOrchard.ages(III)I -/
def P151 : List (Nat × List Instr) := [
  (0, [.iload_n 1, .ifCond .lt 25, .iload_n 1, .sipush 9999, .if_icmp .gt 18, .iload_n 2, .iconst 1, .if_icmp .lt 13, .iload_n 2, .bipush 99, .if_icmp .gt 7, .iconst 1, .goto 4]),
  (26, [.iconst 0, .istore 4, .iload 4, .ifCond .eq 12, .iload_n 3, .ifCond .lt 8, .iload_n 3, .iconst 2, .if_icmp .le 5, .iconst (-1), .ireturn]),
  (27, [.istore 4, .iload 4, .ifCond .eq 12, .iload_n 3, .ifCond .lt 8, .iload_n 3, .iconst 2, .if_icmp .le 5, .iconst (-1), .ireturn]),
  (43, [.iconst (-1), .ireturn]),
  (45, [.aload_n 0, .iload_n 1, .i2l, .putfield 717, .aload_n 0, .getfield 710, .aload_n 0, .getfield 709, .invokevirtual 75, .iconst 0, .istore 5, .aload_n 0, .getfield 705, .getfield 448, .ifCond .le 45, .aload_n 0, .getfield 705, .getfield 449, .ifCond .le 35, .iconst 0, .istore 6]),
  (88, [.iload 6, .iload_n 2, .if_icmp .ge 26, .iload 5, .aload_n 0, .invokevirtual 152, .ifCond .eq 7, .iconst 1, .goto 4]),
  (107, [.iconst 0, .iadd, .istore 5, .iinc 6 1, .goto (-26)]),
  (108, [.iadd, .istore 5, .iinc 6 1, .goto (-26)]),
  (117, [.iload_n 3, .ifCond .ne 6, .iload 5, .ireturn]),
  (124, [.iload_n 3, .iconst 1, .if_icmp .ne 13, .aload_n 0, .getfield 710, .getfield 576, .goto 18]),
  (139, [.aload_n 0, .getfield 710, .invokevirtual 84, .aload_n 0, .getfield 709, .invokevirtual 84, .isub, .ireturn]),
  (154, [.ireturn])]
/-- ShoeOrchard.stepOfAges()Z -/
def P152 : List (Nat × List Instr) := [
  (0, [.aload_n 0, .aload_n 0, .getfield 705, .getfield 449, .invokevirtual 153, .istore_n 1, .aload_n 0, .aload_n 0, .getfield 705, .getfield 448, .invokevirtual 153, .istore_n 2, .aload_n 0, .getfield 710, .iload_n 1, .iload_n 2, .invokevirtual 74, .ifCond .eq 19, .aload_n 0, .getfield 710, .iload_n 1, .iload_n 2, .invokevirtual 76, .ifCond .eq 7, .iconst 1, .goto 4]),
  (52, [.iconst 0, .istore_n 3, .aload_n 0, .bipush 6, .invokevirtual 153, .istore 4, .iload 4, .ifCond .ne 13, .aload_n 0, .getfield 710, .invokevirtual 82, .goto 53]),
  (53, [.istore_n 3, .aload_n 0, .bipush 6, .invokevirtual 153, .istore 4, .iload 4, .ifCond .ne 13, .aload_n 0, .getfield 710, .invokevirtual 82, .goto 53]),
  (77, [.iload 4, .iconst 1, .if_icmp .ne 47, .aload_n 0, .aload_n 0, .getfield 705, .getfield 448, .invokevirtual 153, .istore 5, .aload_n 0, .aload_n 0, .getfield 705, .getfield 448, .invokevirtual 153, .istore 6, .iload 5, .iload 6, .if_icmp .eq 14, .aload_n 0, .getfield 710, .iload 5, .iload 6, .invokevirtual 80, .iload_n 3, .ireturn]),
  (127, [.iload_n 3, .ireturn])]
/-- ShoeOrchard.draw(I)I -/
def P153 : List (Nat × List Instr) := [
  (0, [.aload_n 0, .aload_n 0, .getfield 717, .jsr 1103515245, .lmul, .jsr 12345, .ladd, .jsr 2147483648, .lrem, .putfield 717, .iload_n 1, .iconst 1, .if_icmp .ge 7, .iconst 0, .goto 15]),
  (29, [.aload_n 0, .getfield 717, .jsr 65536, .ldiv, .iload_n 1, .i2l, .lrem, .l2i, .ireturn]),
  (41, [.ireturn])]
/-- ShoeOrchard.mark(IZ)Z -/
def P154 : List (Nat × List Instr) := [
  (0, [.iload_n 1, .ifCond .lt 8, .iload_n 1, .iconst 4, .if_icmp .lt 5, .iconst 0, .ireturn]),
  (9, [.iconst 0, .ireturn]),
  (11, [.iload_n 2, .ifCond .eq 20, .aload_n 0, .getfield 711, .iload_n 1, .aload_n 0, .getfield 709, .aload_n 0, .getfield 712, .invokevirtual 47, .ireturn]),
  (32, [.aload_n 0, .getfield 711, .iload_n 1, .aload_n 0, .getfield 709, .aload_n 0, .getfield 712, .invokevirtual 48, .iconst 1, .ireturn])]
/-- ShoeOrchard.count(I)I -/
def P155 : List (Nat × List Instr) := [
  (0, [.iload_n 1, .tableswitch 178 0 12 #[67, 75, 83, 91, 99, 107, 122, 130, 138, 146, 154, 162, 170]]),
  (68, [.aload_n 0, .getfield 705, .getfield 448, .ireturn]),
  (76, [.aload_n 0, .getfield 705, .getfield 449, .ireturn]),
  (84, [.aload_n 0, .getfield 705, .getfield 450, .ireturn]),
  (92, [.aload_n 0, .getfield 705, .getfield 451, .ireturn]),
  (100, [.aload_n 0, .getfield 709, .getfield 576, .ireturn]),
  (108, [.aload_n 0, .getfield 705, .aload_n 0, .getfield 709, .getfield 576, .invokevirtual 55, .ireturn]),
  (123, [.aload_n 0, .getfield 709, .invokevirtual 85, .ireturn]),
  (131, [.aload_n 0, .getfield 709, .invokevirtual 86, .ireturn]),
  (139, [.aload_n 0, .getfield 709, .invokevirtual 84, .ireturn]),
  (147, [.aload_n 0, .getfield 706, .getfield 128, .ireturn]),
  (155, [.aload_n 0, .getfield 712, .getfield 0, .ireturn]),
  (163, [.aload_n 0, .getfield 711, .getfield 384, .ireturn]),
  (171, [.aload_n 0, .getfield 704, .getfield 640, .ireturn]),
  (179, [.iconst (-1), .ireturn])]
/-- ShoeOrchard.rests(IIII)I -/
def P156 : List (Nat × List Instr) := [
  (0, [.iload_n 1, .invokestatic 157, .ifCond .eq 17, .iload_n 2, .invokestatic 157, .ifCond .eq 10, .iload_n 3, .invokestatic 157, .ifCond .ne 14, .athrow]),
  (21, [.athrow]),
  (32, [.iconst 0, .istore 5, .iconst 0, .istore 6]),
  (38, [.iload 6, .iconst 4, .if_icmp .ge 108, .iload 6, .iconst 2, .idiv, .istore 7, .iload 6, .iconst 2, .irem, .istore 8, .iload 7, .iload 8, .iload_n 1, .iload_n 2, .iload_n 3, .invokestatic 158, .iconst 1, .iload 7, .isub, .iload 8, .iload_n 1, .iload_n 2, .iload_n 3, .invokestatic 158, .if_icmp .lt 7, .iconst 1, .goto 4]),
  (85, [.iconst 0, .istore 9, .iload 8, .iload 7, .iload_n 1, .iload_n 2, .iload_n 3, .invokestatic 158, .iconst 1, .iload 8, .isub, .iload 7, .iload_n 1, .iload_n 2, .iload_n 3, .invokestatic 158, .if_icmp .lt 7, .iconst 1, .goto 4]),
  (86, [.istore 9, .iload 8, .iload 7, .iload_n 1, .iload_n 2, .iload_n 3, .invokestatic 158, .iconst 1, .iload 8, .isub, .iload 7, .iload_n 1, .iload_n 2, .iload_n 3, .invokestatic 158, .if_icmp .lt 7, .iconst 1, .goto 4]),
  (117, [.iconst 0, .istore 10, .iload 9, .ifCond .eq 21, .iload 10, .ifCond .eq 16, .iload 5, .iload 4, .if_icmp .ne 6, .iload 6, .ireturn]),
  (118, [.istore 10, .iload 9, .ifCond .eq 21, .iload 10, .ifCond .eq 16, .iload 5, .iload 4, .if_icmp .ne 6, .iload 6, .ireturn]),
  (140, [.iinc 5 1, .iinc 6 1, .goto (-108)]),
  (143, [.iinc 6 1, .goto (-108)]),
  (149, [.iload 4, .iconst (-1), .if_icmp .eq 14, .athrow]),
  (166, [.iload 5, .ireturn])]
/-- ShoeOrchard.isPay(I)Z -/
def P157 : List (Nat × List Instr) := [
  (0, [.iload_n 0, .ifCond .lt 13, .iload_n 0, .bipush 9, .if_icmp .gt 7, .iconst 1, .goto 4]),
  (14, [.iconst 0, .ireturn]),
  (15, [.ireturn])]
/-- ShoeOrchard.pay(IIIII)I -/
def P158 : List (Nat × List Instr) := [
  (0, [.iload_n 0, .iconst 1, .if_icmp .ne 15, .iload_n 1, .iconst 1, .if_icmp .ne 7, .iload_n 2, .goto 5]),
  (14, [.iload_n 3, .ineg, .ireturn]),
  (16, [.ireturn]),
  (17, [.iload_n 1, .iconst 1, .if_icmp .ne 8, .iload 4, .goto 4]),
  (27, [.iconst 0, .ireturn]),
  (28, [.ireturn])]
/-- ShoeOrchardModel.thrown()I -/
def P159 : List (Nat × List Instr) := [
  (0, [.aload_n 0, .getfield 768, .ireturn])]
/-- ShoeOrchardModel.feed(JJJ)I -/
def P160 : List (Nat × List Instr) := [
  (0, [.aload_n 0, .iconst 0, .putfield 768, .aload_n 0, .lload_n 1, .invokevirtual 161, .aload_n 0, .lload_n 3, .invokevirtual 161, .aload_n 0, .lload 5, .invokevirtual 161, .aload_n 0, .getfield 770, .ireturn])]
/-- ShoeOrchardModel.lay(J)V -/
def P161 : List (Nat × List Instr) := [
  (0, [.bipush 56, .istore_n 3]),
  (3, [.iload_n 3, .ifCond .lt 71, .lload_n 1, .iload_n 3, .lshr, .l2i, .sipush 255, .iand, .istore 4, .iload 4, .bipush 10, .if_icmp .eq 17, .iload 4, .bipush 32, .if_icmp .lt 41, .iload 4, .bipush 126, .if_icmp .gt 34, .aload_n 0, .getfield 770, .sipush 1000, .if_icmp .ge 24, .aload_n 0, .getfield 769, .aload_n 0, .getfield 770, .iload 4, .iastore, .aload_n 0, .dup, .getfield 770, .iconst 1, .iadd, .putfield 770, .iinc 3 (-8), .goto (-69)]),
  (38, [.aload_n 0, .getfield 770, .sipush 1000, .if_icmp .ge 24, .aload_n 0, .getfield 769, .aload_n 0, .getfield 770, .iload 4, .iastore, .aload_n 0, .dup, .getfield 770, .iconst 1, .iadd, .putfield 770, .iinc 3 (-8), .goto (-69)]),
  (69, [.iinc 3 (-8), .goto (-69)]),
  (75, [.return_])]
/-- ShoeOrchardModel.<init>()V -/
def P162 : List (Nat × List Instr) := [
  (0, [.aload_n 0, .invokespecial 900, .aload_n 0, .sipush 1000, .newarray .int, .putfield 769, .aload_n 0, .sipush 1002, .newarray .int, .putfield 772, .aload_n 0, .sipush 1002, .newarray .int, .putfield 773, .aload_n 0, .sipush 1002, .newarray .long, .putfield 774, .aload_n 0, .bipush 29, .newarray .long, .dup, .iconst 0, .jsr 1037892, .lastore, .dup, .iconst 1, .jsr 609928, .lastore, .dup, .iconst 2, .jsr 1633, .lastore, .dup, .iconst 3, .jsr 1119812451, .lastore, .dup, .iconst 4, .jsr 310968, .lastore, .dup, .iconst 5, .jsr 30461738, .lastore, .dup, .bipush 6, .jsr 730246, .lastore, .dup, .bipush 7, .jsr 12177978, .lastore, .dup, .bipush 8, .jsr 4003641, .lastore, .dup, .bipush 9, .jsr 28071, .lastore, .dup, .bipush 10, .jsr 36016323, .lastore, .dup, .bipush 11, .jsr 14032492, .lastore, .dup, .bipush 12, .jsr 30927602, .lastore, .dup, .bipush 13, .jsr 1273225, .lastore, .dup, .bipush 14, .jsr 173192972, .lastore, .dup, .bipush 15, .jsr 122416, .lastore, .dup, .bipush 16, .jsr 49598629259, .lastore, .dup, .bipush 17, .jsr 1320124011, .lastore, .dup, .bipush 18, .jsr 30596128, .lastore, .dup, .bipush 19, .jsr 6040476, .lastore, .dup, .bipush 20, .jsr 583696626, .lastore, .dup, .bipush 21, .jsr 20983, .lastore, .dup, .bipush 22, .jsr 19741, .lastore, .dup, .bipush 23, .jsr 1891, .lastore, .dup, .bipush 24, .jsr 573, .lastore, .dup, .bipush 25, .jsr 975695, .lastore, .dup, .bipush 26, .jsr 47109344, .lastore, .dup, .bipush 27, .jsr 6040484, .lastore, .dup, .bipush 28, .jsr 204726, .lastore, .putfield 777, .aload_n 0, .bipush 100, .newarray .int, .putfield 778, .aload_n 0, .sipush 2200, .newarray .int, .putfield 779, .aload_n 0, .sipush 2200, .newarray .int, .putfield 780, .aload_n 0, .bipush 12, .newarray .long, .putfield 782, .aload_n 0, .bipush 12, .newarray .long, .putfield 783, .aload_n 0, .bipush 12, .newarray .int, .putfield 784, .aload_n 0, .bipush 12, .newarray .int, .putfield 785, .aload_n 0, .sipush 250, .newarray .int, .putfield 789, .aload_n 0, .iconst 4, .newarray .int, .putfield 790, .aload_n 0, .sipush 1100, .newarray .int, .putfield 791, .aload_n 0, .sipush 1380, .newarray .int, .putfield 792, .aload_n 0, .iconst 4, .newarray .boolean, .putfield 794, .aload_n 0, .bipush 6, .newarray .int, .putfield 795, .aload_n 0, .bipush 6, .newarray .int, .putfield 796, .aload_n 0, .bipush 6, .newarray .int, .putfield 798, .aload_n 0, .bipush 6, .newarray .int, .putfield 799, .aload_n 0, .iconst 0, .invokevirtual 163, .aload_n 0, .invokevirtual 164, .return_])]
/-- ShoeOrchardModel.standsAsAlways(I)V -/
def P163 : List (Nat × List Instr) := [
  (0, [.iconst 0, .istore_n 2]),
  (2, [.iload_n 2, .bipush 50, .if_icmp .ge 18, .aload_n 0, .getfield 778, .iload_n 1, .iload_n 2, .iadd, .iconst 0, .iastore, .iinc 2 1, .goto (-18)]),
  (23, [.aload_n 0, .getfield 778, .iload_n 1, .iconst 2, .iadd, .iconst 1, .iastore, .aload_n 0, .getfield 778, .iload_n 1, .iconst 3, .iadd, .iconst 3, .iastore, .aload_n 0, .getfield 778, .iload_n 1, .iconst 4, .iadd, .iconst 1, .iastore, .aload_n 0, .getfield 778, .iload_n 1, .iconst 5, .iadd, .iconst (-1), .iastore, .return_])]
/-- ShoeOrchardModel.begins()V -/
def P164 : List (Nat × List Instr) := [
  (0, [.aload_n 0, .iconst 0, .invokevirtual 165, .aload_n 0, .getfield 792, .bipush 43, .iconst 0, .iastore, .aload_n 0, .getfield 789, .iconst 0, .iconst 0, .iastore, .aload_n 0, .iconst 0, .putfield 793, .iconst 0, .istore_n 1]),
  (27, [.iload_n 1, .iconst 4, .if_icmp .ge 16, .aload_n 0, .getfield 794, .iload_n 1, .iconst 0, .bastore, .iinc 1 1, .goto (-15)]),
  (45, [.return_])]
/-- ShoeOrchardModel.starts(I)V -/
def P165 : List (Nat × List Instr) := [
  (0, [.iconst 0, .istore_n 2]),
  (2, [.iload_n 2, .bipush 43, .if_icmp .ge 18, .aload_n 0, .getfield 792, .iload_n 1, .iload_n 2, .iadd, .iconst 0, .iastore, .iinc 2 1, .goto (-18)]),
  (23, [.iconst 0, .istore_n 2]),
  (25, [.iload_n 2, .aload_n 0, .invokevirtual 166, .if_icmp .ge 42, .aload_n 0, .getfield 792, .iload_n 1, .iconst 1, .iadd, .iload_n 2, .iadd, .aload_n 0, .iload_n 2, .iconst 1, .invokevirtual 167, .iastore, .aload_n 0, .getfield 792, .iload_n 1, .bipush 7, .iadd, .iload_n 2, .iadd, .aload_n 0, .iload_n 2, .iconst 2, .invokevirtual 167, .iastore, .iinc 2 1, .goto (-44)]),
  (72, [.iconst 0, .istore_n 2]),
  (74, [.iload_n 2, .bipush 6, .if_icmp .ge 62, .aload_n 0, .getfield 792, .iload_n 1, .bipush 13, .iadd, .iload_n 2, .iadd, .iload_n 2, .aload_n 0, .invokevirtual 168, .if_icmp .ge 12, .aload_n 0, .iload_n 2, .iconst 1, .invokevirtual 169, .goto 4]),
  (107, [.iconst 0, .iastore, .aload_n 0, .getfield 792, .iload_n 1, .bipush 19, .iadd, .iload_n 2, .iadd, .iconst (-1), .iastore, .aload_n 0, .getfield 792, .iload_n 1, .bipush 37, .iadd, .iload_n 2, .iadd, .iconst (-1), .iastore, .iinc 2 1, .goto (-62)]),
  (108, [.iastore, .aload_n 0, .getfield 792, .iload_n 1, .bipush 19, .iadd, .iload_n 2, .iadd, .iconst (-1), .iastore, .aload_n 0, .getfield 792, .iload_n 1, .bipush 37, .iadd, .iload_n 2, .iadd, .iconst (-1), .iastore, .iinc 2 1, .goto (-62)]),
  (139, [.return_])]
/-- ShoeOrchardModel.trees()I -/
def P166 : List (Nat × List Instr) := [
  (0, [.aload_n 0, .getfield 778, .iconst 0, .iaload, .ireturn])]
/-- ShoeOrchardModel.treeOf(II)I -/
def P167 : List (Nat × List Instr) := [
  (0, [.aload_n 0, .getfield 778, .bipush 6, .iconst 3, .iload_n 1, .imul, .iadd, .iload_n 2, .iadd, .iaload, .ireturn])]
/-- ShoeOrchardModel.persons()I -/
def P168 : List (Nat × List Instr) := [
  (0, [.aload_n 0, .getfield 778, .iconst 1, .iaload, .ireturn])]
/-- ShoeOrchardModel.personOf(II)I -/
def P169 : List (Nat × List Instr) := [
  (0, [.aload_n 0, .getfield 778, .bipush 24, .iconst 2, .iload_n 1, .imul, .iadd, .iload_n 2, .iadd, .iaload, .ireturn])]
/-- ShoeOrchardModel.orchard()I -/
def P170 : List (Nat × List Instr) := [
  (0, [.aload_n 0, .iconst 0, .putfield 768, .aload_n 0, .invokevirtual 171, .aload_n 0, .iconst 0, .putfield 781, .aload_n 0, .iconst 0, .putfield 787, .aload_n 0, .iconst 0, .putfield 788, .aload_n 0, .bipush 50, .invokevirtual 163]),
  (30, [.aload_n 0, .getfield 776, .ifCond .ne 28, .aload_n 0, .getfield 772, .aload_n 0, .getfield 775, .iaload, .ifCond .eq 16, .aload_n 0, .invokevirtual 176, .aload_n 0, .bipush 59, .invokevirtual 198, .goto (-29)]),
  (62, [.aload_n 0, .getfield 776, .ifCond .le 8, .aload_n 0, .getfield 776, .ireturn]),
  (74, [.iconst 0, .istore_n 1]),
  (76, [.iload_n 1, .bipush 50, .if_icmp .ge 24, .aload_n 0, .getfield 778, .iload_n 1, .aload_n 0, .getfield 778, .bipush 50, .iload_n 1, .iadd, .iaload, .iastore, .iinc 1 1, .goto (-24)]),
  (103, [.iconst 0, .istore_n 1]),
  (105, [.iload_n 1, .aload_n 0, .getfield 781, .if_icmp .ge 41, .aload_n 0, .getfield 779, .iload_n 1, .aload_n 0, .getfield 779, .sipush 1100, .iload_n 1, .iadd, .iaload, .iastore, .aload_n 0, .getfield 780, .iload_n 1, .aload_n 0, .getfield 780, .sipush 1100, .iload_n 1, .iadd, .iaload, .iastore, .iinc 1 1, .goto (-43)]),
  (151, [.iconst 0, .istore_n 1]),
  (153, [.iload_n 1, .aload_n 0, .getfield 787, .if_icmp .ge 33, .aload_n 0, .getfield 782, .iload_n 1, .aload_n 0, .getfield 783, .iload_n 1, .laload, .lastore, .aload_n 0, .getfield 784, .iload_n 1, .aload_n 0, .getfield 785, .iload_n 1, .iaload, .iastore, .iinc 1 1, .goto (-35)]),
  (191, [.aload_n 0, .aload_n 0, .getfield 787, .putfield 786, .aload_n 0, .invokevirtual 164, .iconst 0, .ireturn])]
/-- ShoeOrchardModel.cutAll()V -/
def P171 : List (Nat × List Instr) := [
  (0, [.aload_n 0, .aload_n 0, .getfield 770, .putfield 771, .aload_n 0, .iconst 0, .putfield 770, .iconst 0, .istore_n 1, .iconst 0, .istore_n 2]),
  (17, [.iload_n 2, .aload_n 0, .getfield 771, .if_icmp .ge 257, .aload_n 0, .getfield 769, .iload_n 2, .iaload, .istore_n 3, .iload_n 3, .bipush 10, .if_icmp .eq 9, .iload_n 3, .bipush 32, .if_icmp .ne 9, .iinc 2 1, .goto (-30)]),
  (44, [.iinc 2 1, .goto (-30)]),
  (50, [.iload_n 2, .istore 4, .lconst 0, .lstore 5, .aload_n 0, .getfield 773, .iload_n 1, .iload_n 2, .iastore, .iload_n 3, .invokestatic 172, .ifCond .eq 85]),
  (70, [.iload_n 2, .aload_n 0, .getfield 771, .if_icmp .ge 54, .aload_n 0, .getfield 769, .iload_n 2, .iaload, .invokestatic 172, .ifCond .eq 42, .iload_n 2, .iload 4, .isub, .bipush 8, .if_icmp .ge 23, .jsr 37, .lload 5, .lmul, .aload_n 0, .getfield 769, .iload_n 2, .iaload, .invokestatic 173, .i2l, .ladd, .goto 5]),
  (119, [.lload 5, .lstore 5, .iinc 2 1, .goto (-56)]),
  (121, [.lstore 5, .iinc 2 1, .goto (-56)]),
  (129, [.aload_n 0, .getfield 772, .iload_n 1, .iload_n 2, .iload 4, .isub, .bipush 8, .if_icmp .le 7, .iconst 4, .goto 4]),
  (147, [.iconst 1, .iastore, .goto 116]),
  (148, [.iastore, .goto 116]),
  (152, [.iload_n 3, .invokestatic 174, .ifCond .eq 84]),
  (159, [.iload_n 2, .aload_n 0, .getfield 771, .if_icmp .ge 54, .aload_n 0, .getfield 769, .iload_n 2, .iaload, .invokestatic 174, .ifCond .eq 42, .iload_n 2, .iload 4, .isub, .iconst 4, .if_icmp .ge 24, .jsr 10, .lload 5, .lmul, .aload_n 0, .getfield 769, .iload_n 2, .iaload, .i2l, .ladd, .jsr 48, .lsub, .goto 5]),
  (208, [.lload 5, .lstore 5, .iinc 2 1, .goto (-56)]),
  (210, [.lstore 5, .iinc 2 1, .goto (-56)]),
  (218, [.aload_n 0, .getfield 772, .iload_n 1, .iload_n 2, .iload 4, .isub, .iconst 4, .if_icmp .le 7, .iconst 4, .goto 4]),
  (235, [.iconst 2, .iastore, .goto 28]),
  (236, [.iastore, .goto 28]),
  (240, [.iload_n 3, .i2l, .lstore 5, .aload_n 0, .getfield 772, .iload_n 1, .iload_n 3, .invokestatic 175, .ifCond .eq 7, .iconst 3, .goto 4]),
  (260, [.iconst 4, .iastore, .iinc 2 1, .aload_n 0, .getfield 774, .iload_n 1, .lload 5, .lastore, .iinc 1 1, .goto (-259)]),
  (261, [.iastore, .iinc 2 1, .aload_n 0, .getfield 774, .iload_n 1, .lload 5, .lastore, .iinc 1 1, .goto (-259)]),
  (265, [.aload_n 0, .getfield 774, .iload_n 1, .lload 5, .lastore, .iinc 1 1, .goto (-259)]),
  (279, [.aload_n 0, .getfield 772, .iload_n 1, .iconst 0, .iastore, .aload_n 0, .getfield 773, .iload_n 1, .aload_n 0, .getfield 771, .iastore, .aload_n 0, .iconst 0, .putfield 775, .aload_n 0, .iconst 0, .putfield 776, .return_])]
/-- ShoeOrchardModel.isLetter(I)Z -/
def P172 : List (Nat × List Instr) := [
  (0, [.iload_n 0, .bipush 97, .if_icmp .lt 13, .iload_n 0, .bipush 122, .if_icmp .gt 7, .iconst 1, .goto 4]),
  (16, [.iconst 0, .ireturn]),
  (17, [.ireturn])]
/-- ShoeOrchardModel.rank(I)I -/
def P173 : List (Nat × List Instr) := [
  (0, [.iload_n 0, .invokestatic 172, .ifCond .eq 10, .iload_n 0, .bipush 96, .isub, .goto 7]),
  (14, [.iload_n 0, .bipush 21, .isub, .ireturn]),
  (18, [.ireturn])]
/-- ShoeOrchardModel.isDigit(I)Z -/
def P174 : List (Nat × List Instr) := [
  (0, [.iload_n 0, .bipush 48, .if_icmp .lt 13, .iload_n 0, .bipush 57, .if_icmp .gt 7, .iconst 1, .goto 4]),
  (16, [.iconst 0, .ireturn]),
  (17, [.ireturn])]
/-- ShoeOrchardModel.isSignOf(I)Z -/
def P175 : List (Nat × List Instr) := [
  (0, [.iload_n 0, .bipush 40, .if_icmp .eq 45, .iload_n 0, .bipush 41, .if_icmp .eq 39, .iload_n 0, .bipush 59, .if_icmp .eq 33, .iload_n 0, .bipush 61, .if_icmp .eq 27, .iload_n 0, .bipush 60, .if_icmp .eq 21, .iload_n 0, .bipush 43, .if_icmp .eq 15, .iload_n 0, .bipush 45, .if_icmp .eq 9, .iload_n 0, .bipush 42, .if_icmp .ne 7, .iconst 1, .goto 4]),
  (48, [.iconst 1, .goto 4]),
  (52, [.iconst 0, .ireturn]),
  (53, [.ireturn])]
/-- ShoeOrchardModel.readLine()V -/
def P176 : List (Nat × List Instr) := [
  (0, [.aload_n 0, .iconst 0, .invokevirtual 177, .ifCond .eq 87, .bipush 56, .iconst 3, .aload_n 0, .getfield 778, .bipush 50, .iaload, .imul, .iadd, .istore_n 1, .aload_n 0, .iconst 0, .bipush 6, .iconst 0, .invokevirtual 178, .aload_n 0, .bipush 14, .iconst 4, .invokevirtual 183, .istore_n 2, .aload_n 0, .iconst 1, .iconst 0, .bipush 30, .invokevirtual 184, .istore_n 3, .aload_n 0, .iconst 2, .iconst 0, .bipush 20, .invokevirtual 184, .istore 4, .aload_n 0, .getfield 776, .ifCond .ne 29, .aload_n 0, .getfield 778, .iload_n 1, .iload_n 2, .iastore, .aload_n 0, .getfield 778, .iload_n 1, .iconst 1, .iadd, .iload_n 3, .iastore, .aload_n 0, .getfield 778, .iload_n 1, .iconst 2, .iadd, .iload 4, .iastore, .goto 80]),
  (89, [.goto 80]),
  (92, [.aload_n 0, .iconst 3, .invokevirtual 177, .ifCond .eq 68, .bipush 74, .iconst 2, .aload_n 0, .getfield 778, .bipush 51, .iaload, .imul, .iadd, .istore_n 1, .aload_n 0, .iconst 1, .bipush 6, .bipush 20, .invokevirtual 178, .aload_n 0, .bipush 18, .iconst 4, .invokevirtual 183, .istore_n 2, .aload_n 0, .iconst 4, .iconst 0, .bipush 30, .invokevirtual 184, .istore_n 3, .aload_n 0, .getfield 776, .ifCond .ne 19, .aload_n 0, .getfield 778, .iload_n 1, .iload_n 2, .iastore, .aload_n 0, .getfield 778, .iload_n 1, .iconst 1, .iadd, .iload_n 3, .iastore, .goto 7]),
  (162, [.goto 7]),
  (165, [.aload_n 0, .invokevirtual 188, .return_]),
  (169, [.return_])]
/-- ShoeOrchardModel.isWord(I)Z -/
def P177 : List (Nat × List Instr) := [
  (0, [.aload_n 0, .getfield 776, .ifCond .ne 39, .aload_n 0, .getfield 772, .aload_n 0, .getfield 775, .iaload, .iconst 1, .if_icmp .ne 26, .aload_n 0, .getfield 774, .aload_n 0, .getfield 775, .laload, .aload_n 0, .getfield 777, .iload_n 1, .laload, .lcmp, .ifCond .ne 7, .iconst 1, .goto 4]),
  (43, [.iconst 0, .ireturn]),
  (44, [.ireturn])]
/-- ShoeOrchardModel.readName(III)V -/
def P178 : List (Nat × List Instr) := [
  (0, [.aload_n 0, .getfield 778, .bipush 50, .iload_n 1, .iadd, .iaload, .istore 4, .iload 4, .iload_n 2, .if_icmp .ne 9, .aload_n 0, .iconst 5, .invokevirtual 179, .return_]),
  (23, [.aload_n 0, .dup, .getfield 775, .iconst 1, .iadd, .putfield 775, .aload_n 0, .invokevirtual 180, .ifCond .ne 11, .aload_n 0, .iconst 1, .invokevirtual 179, .goto 16]),
  (48, [.aload_n 0, .iconst 1, .invokevirtual 182, .ifCond .lt 8, .aload_n 0, .iconst 3, .invokevirtual 179, .aload_n 0, .getfield 776, .ifCond .ne 67, .aload_n 0, .getfield 783, .aload_n 0, .getfield 787, .aload_n 0, .getfield 774, .aload_n 0, .getfield 775, .laload, .lastore, .aload_n 0, .getfield 785, .aload_n 0, .getfield 787, .iload_n 3, .iload 4, .iadd, .iastore, .aload_n 0, .dup, .getfield 787, .iconst 1, .iadd, .putfield 787, .aload_n 0, .dup, .getfield 775, .iconst 1, .iadd, .putfield 775, .aload_n 0, .getfield 778, .bipush 50, .iload_n 1, .iadd, .dup2, .iaload, .iconst 1, .iadd, .iastore, .return_]),
  (61, [.aload_n 0, .getfield 776, .ifCond .ne 67, .aload_n 0, .getfield 783, .aload_n 0, .getfield 787, .aload_n 0, .getfield 774, .aload_n 0, .getfield 775, .laload, .lastore, .aload_n 0, .getfield 785, .aload_n 0, .getfield 787, .iload_n 3, .iload 4, .iadd, .iastore, .aload_n 0, .dup, .getfield 787, .iconst 1, .iadd, .putfield 787, .aload_n 0, .dup, .getfield 775, .iconst 1, .iadd, .putfield 775, .aload_n 0, .getfield 778, .bipush 50, .iload_n 1, .iadd, .dup2, .iaload, .iconst 1, .iadd, .iastore, .return_]),
  (132, [.return_])]
/-- ShoeOrchardModel.wrong(I)V -/
def P179 : List (Nat × List Instr) := [
  (0, [.aload_n 0, .getfield 776, .ifCond .ne 21, .aload_n 0, .iload_n 1, .bipush 16, .aload_n 0, .getfield 773, .aload_n 0, .getfield 775, .iaload, .imul, .iadd, .putfield 776, .return_]),
  (25, [.return_])]
/-- ShoeOrchardModel.isName()Z -/
def P180 : List (Nat × List Instr) := [
  (0, [.aload_n 0, .getfield 776, .ifCond .ne 30, .aload_n 0, .getfield 772, .aload_n 0, .getfield 775, .iaload, .iconst 1, .if_icmp .ne 17, .aload_n 0, .iconst 0, .bipush 25, .invokevirtual 181, .ifCond .ge 7, .iconst 1, .goto 4]),
  (34, [.iconst 0, .ireturn]),
  (35, [.ireturn])]
/-- ShoeOrchardModel.wordHere(II)I -/
def P181 : List (Nat × List Instr) := [
  (0, [.iconst (-1), .istore_n 3, .iconst 0, .istore 4]),
  (5, [.iload 4, .iload_n 2, .if_icmp .ge 27, .aload_n 0, .iload_n 1, .iload 4, .iadd, .invokevirtual 177, .ifCond .eq 8, .iload 4, .goto 4]),
  (27, [.iload_n 3, .istore_n 3, .iinc 4 1, .goto (-27)]),
  (28, [.istore_n 3, .iinc 4 1, .goto (-27)]),
  (35, [.iload_n 3, .ireturn])]
/-- ShoeOrchardModel.nameAt(Z)I -/
def P182 : List (Nat × List Instr) := [
  (0, [.iconst 0, .istore_n 2]),
  (2, [.iload_n 2, .iload_n 1, .ifCond .eq 10, .aload_n 0, .getfield 787, .goto 7]),
  (14, [.aload_n 0, .getfield 786, .if_icmp .ge 61, .iload_n 1, .ifCond .eq 12, .aload_n 0, .getfield 783, .iload_n 2, .laload, .goto 9]),
  (18, [.if_icmp .ge 61, .iload_n 1, .ifCond .eq 12, .aload_n 0, .getfield 783, .iload_n 2, .laload, .goto 9]),
  (34, [.aload_n 0, .getfield 782, .iload_n 2, .laload, .aload_n 0, .getfield 774, .aload_n 0, .getfield 775, .laload, .lcmp, .ifCond .ne 23, .iload_n 1, .ifCond .eq 12, .aload_n 0, .getfield 785, .iload_n 2, .iaload, .goto 9]),
  (40, [.aload_n 0, .getfield 774, .aload_n 0, .getfield 775, .laload, .lcmp, .ifCond .ne 23, .iload_n 1, .ifCond .eq 12, .aload_n 0, .getfield 785, .iload_n 2, .iaload, .goto 9]),
  (66, [.aload_n 0, .getfield 784, .iload_n 2, .iaload, .ireturn]),
  (72, [.ireturn]),
  (73, [.iinc 2 1, .goto (-74)]),
  (79, [.iconst (-1), .ireturn])]
/-- ShoeOrchardModel.takeOne(II)I -/
def P183 : List (Nat × List Instr) := [
  (0, [.aload_n 0, .getfield 776, .ifCond .le 7, .iconst (-1), .goto 9]),
  (11, [.aload_n 0, .iload_n 1, .iload_n 2, .invokevirtual 181, .istore_n 3, .aload_n 0, .getfield 776, .ifCond .ne 12, .iload_n 3, .ifCond .ge 8, .aload_n 0, .iconst 1, .invokevirtual 179, .aload_n 0, .dup, .getfield 775, .aload_n 0, .getfield 776, .ifCond .le 7, .iconst 0, .goto 4]),
  (17, [.istore_n 3, .aload_n 0, .getfield 776, .ifCond .ne 12, .iload_n 3, .ifCond .ge 8, .aload_n 0, .iconst 1, .invokevirtual 179, .aload_n 0, .dup, .getfield 775, .aload_n 0, .getfield 776, .ifCond .le 7, .iconst 0, .goto 4]),
  (34, [.aload_n 0, .dup, .getfield 775, .aload_n 0, .getfield 776, .ifCond .le 7, .iconst 0, .goto 4]),
  (50, [.iconst 1, .iadd, .putfield 775, .aload_n 0, .getfield 776, .ifCond .le 7, .iconst 0, .goto 4]),
  (51, [.iadd, .putfield 775, .aload_n 0, .getfield 776, .ifCond .le 7, .iconst 0, .goto 4]),
  (66, [.iload_n 3, .ireturn]),
  (67, [.ireturn])]
/-- ShoeOrchardModel.takeAfter(III)I -/
def P184 : List (Nat × List Instr) := [
  (0, [.aload_n 0, .iload_n 1, .invokevirtual 185, .aload_n 0, .iload_n 2, .iload_n 3, .invokevirtual 187, .ireturn])]
/-- ShoeOrchardModel.takeWord(I)V -/
def P185 : List (Nat × List Instr) := [
  (0, [.aload_n 0, .iload_n 1, .invokevirtual 186, .ifCond .ne 8, .aload_n 0, .iconst 1, .invokevirtual 179, .return_]),
  (13, [.return_])]
/-- ShoeOrchardModel.hasWord(I)Z -/
def P186 : List (Nat × List Instr) := [
  (0, [.aload_n 0, .iload_n 1, .invokevirtual 177, .istore_n 2, .aload_n 0, .dup, .getfield 775, .iload_n 2, .ifCond .eq 7, .iconst 1, .goto 4]),
  (19, [.iconst 0, .iadd, .putfield 775, .iload_n 2, .ireturn]),
  (20, [.iadd, .putfield 775, .iload_n 2, .ireturn])]
/-- ShoeOrchardModel.takeNumber(II)I -/
def P187 : List (Nat × List Instr) := [
  (0, [.aload_n 0, .getfield 776, .ifCond .ne 24, .aload_n 0, .getfield 772, .aload_n 0, .getfield 775, .iaload, .iconst 2, .if_icmp .eq 11, .aload_n 0, .iconst 1, .invokevirtual 179, .goto 45]),
  (28, [.aload_n 0, .getfield 776, .ifCond .ne 38, .aload_n 0, .getfield 774, .aload_n 0, .getfield 775, .laload, .iload_n 1, .i2l, .lcmp, .ifCond .lt 18, .aload_n 0, .getfield 774, .aload_n 0, .getfield 775, .laload, .iload_n 2, .i2l, .lcmp, .ifCond .le 8, .aload_n 0, .iconst 4, .invokevirtual 179, .aload_n 0, .getfield 776, .ifCond .le 5, .iconst 0, .ireturn]),
  (65, [.aload_n 0, .iconst 4, .invokevirtual 179, .aload_n 0, .getfield 776, .ifCond .le 5, .iconst 0, .ireturn]),
  (70, [.aload_n 0, .getfield 776, .ifCond .le 5, .iconst 0, .ireturn]),
  (79, [.aload_n 0, .dup, .getfield 775, .iconst 1, .iadd, .putfield 775, .aload_n 0, .getfield 774, .aload_n 0, .getfield 775, .iconst 1, .isub, .laload, .l2i, .ireturn])]
/-- ShoeOrchardModel.readOnce()V -/
def P188 : List (Nat × List Instr) := [
  (0, [.aload_n 0, .iconst 5, .iconst 4, .invokevirtual 181, .istore_n 1, .iload_n 1, .ifCond .ge 11, .aload_n 0, .iconst 1, .invokevirtual 179, .goto 20]),
  (19, [.aload_n 0, .getfield 788, .iload_n 1, .ishr, .iconst 1, .iand, .iconst 1, .if_icmp .ne 8, .aload_n 0, .iconst 3, .invokevirtual 179, .aload_n 0, .getfield 776, .ifCond .le 4, .return_]),
  (36, [.aload_n 0, .getfield 776, .ifCond .le 4, .return_]),
  (44, [.aload_n 0, .dup, .getfield 788, .iconst 1, .iload_n 1, .ishl, .ior, .putfield 788, .aload_n 0, .dup, .getfield 775, .iconst 1, .iadd, .putfield 775, .iload_n 1, .iconst 2, .if_icmp .ge 23, .aload_n 0, .getfield 778, .bipush 52, .iload_n 1, .iadd, .aload_n 0, .iload_n 1, .iconst 5, .iload_n 1, .iadd, .invokevirtual 187, .iastore, .goto 37]),
  (91, [.iload_n 1, .iconst 2, .if_icmp .ne 10, .aload_n 0, .invokevirtual 189, .goto 25]),
  (103, [.aload_n 0, .getfield 778, .bipush 55, .aload_n 0, .getfield 781, .iastore, .aload_n 0, .iconst 0, .invokevirtual 190, .aload_n 0, .iconst 0, .iconst 0, .invokevirtual 196, .return_]),
  (125, [.return_])]
/-- ShoeOrchardModel.readFrost()V -/
def P189 : List (Nat × List Instr) := [
  (0, [.iconst 0, .istore_n 1]),
  (2, [.aload_n 0, .getfield 776, .ifCond .ne 81, .iload_n 1, .ifCond .eq 16, .aload_n 0, .getfield 772, .aload_n 0, .getfield 775, .iaload, .iconst 2, .if_icmp .ne 64, .aload_n 0, .iconst 0, .iconst 3, .invokevirtual 187, .istore_n 2, .aload_n 0, .getfield 776, .ifCond .ne 27, .iload_n 1, .bipush 12, .if_icmp .ne 21, .aload_n 0, .dup, .getfield 775, .iconst 1, .isub, .putfield 775, .aload_n 0, .iconst 5, .invokevirtual 179, .goto 23]),
  (26, [.aload_n 0, .iconst 0, .iconst 3, .invokevirtual 187, .istore_n 2, .aload_n 0, .getfield 776, .ifCond .ne 27, .iload_n 1, .bipush 12, .if_icmp .ne 21, .aload_n 0, .dup, .getfield 775, .iconst 1, .isub, .putfield 775, .aload_n 0, .iconst 5, .invokevirtual 179, .goto 23]),
  (64, [.aload_n 0, .getfield 776, .ifCond .ne 16, .aload_n 0, .getfield 778, .bipush 86, .iload_n 1, .iadd, .iload_n 2, .iastore, .iinc 1 1, .goto (-82)]),
  (84, [.goto (-82)]),
  (87, [.aload_n 0, .getfield 778, .bipush 54, .iload_n 1, .iastore, .return_])]
/-- ShoeOrchardModel.whole(I)V -/
def P190 : List (Nat × List Instr) := [
  (0, [.aload_n 0, .iload_n 1, .invokevirtual 191]),
  (5, [.aload_n 0, .bipush 23, .invokevirtual 177, .ifCond .ne 12, .aload_n 0, .bipush 24, .invokevirtual 177, .ifCond .eq 44, .aload_n 0, .bipush 23, .invokevirtual 177, .istore_n 2, .aload_n 0, .dup, .getfield 775, .iconst 1, .iadd, .putfield 775, .aload_n 0, .iload_n 1, .invokevirtual 191, .aload_n 0, .iload_n 2, .ifCond .eq 8, .bipush 9, .goto 5]),
  (23, [.aload_n 0, .bipush 23, .invokevirtual 177, .istore_n 2, .aload_n 0, .dup, .getfield 775, .iconst 1, .iadd, .putfield 775, .aload_n 0, .iload_n 1, .invokevirtual 191, .aload_n 0, .iload_n 2, .ifCond .eq 8, .bipush 9, .goto 5]),
  (55, [.bipush 10, .iconst 0, .invokevirtual 196, .goto (-56)]),
  (57, [.iconst 0, .invokevirtual 196, .goto (-56)]),
  (64, [.return_])]
/-- ShoeOrchardModel.test(I)V -/
def P191 : List (Nat × List Instr) := [
  (0, [.aload_n 0, .iload_n 1, .invokevirtual 192, .aload_n 0, .bipush 60, .invokevirtual 195, .istore_n 2, .aload_n 0, .bipush 60, .invokevirtual 197, .ifCond .ne 12, .aload_n 0, .bipush 61, .invokevirtual 197, .ifCond .eq 24, .aload_n 0, .iload_n 1, .invokevirtual 192, .aload_n 0, .iload_n 2, .ifCond .eq 8, .bipush 7, .goto 5]),
  (30, [.aload_n 0, .iload_n 1, .invokevirtual 192, .aload_n 0, .iload_n 2, .ifCond .eq 8, .bipush 7, .goto 5]),
  (45, [.bipush 8, .iconst 0, .invokevirtual 196, .return_]),
  (47, [.iconst 0, .invokevirtual 196, .return_]),
  (51, [.return_])]
/-- ShoeOrchardModel.sums(I)V -/
def P192 : List (Nat × List Instr) := [
  (0, [.aload_n 0, .iload_n 1, .invokevirtual 193]),
  (5, [.aload_n 0, .bipush 43, .invokevirtual 195, .ifCond .ne 12, .aload_n 0, .bipush 45, .invokevirtual 195, .ifCond .eq 42, .aload_n 0, .bipush 43, .invokevirtual 195, .istore_n 2, .aload_n 0, .dup, .getfield 775, .iconst 1, .iadd, .putfield 775, .aload_n 0, .iload_n 1, .invokevirtual 193, .aload_n 0, .iload_n 2, .ifCond .eq 7, .iconst 4, .goto 4]),
  (23, [.aload_n 0, .bipush 43, .invokevirtual 195, .istore_n 2, .aload_n 0, .dup, .getfield 775, .iconst 1, .iadd, .putfield 775, .aload_n 0, .iload_n 1, .invokevirtual 193, .aload_n 0, .iload_n 2, .ifCond .eq 7, .iconst 4, .goto 4]),
  (54, [.iconst 5, .iconst 0, .invokevirtual 196, .goto (-54)]),
  (55, [.iconst 0, .invokevirtual 196, .goto (-54)]),
  (62, [.return_])]
/-- ShoeOrchardModel.products(I)V -/
def P193 : List (Nat × List Instr) := [
  (0, [.aload_n 0, .iload_n 1, .invokevirtual 194]),
  (5, [.aload_n 0, .bipush 42, .invokevirtual 197, .ifCond .eq 18, .aload_n 0, .iload_n 1, .invokevirtual 194, .aload_n 0, .bipush 6, .iconst 0, .invokevirtual 196, .goto (-21)]),
  (29, [.return_])]
/-- ShoeOrchardModel.takePart(I)V -/
def P194 : List (Nat × List Instr) := [
  (0, [.aload_n 0, .getfield 776, .ifCond .le 4, .return_]),
  (8, [.aload_n 0, .getfield 772, .aload_n 0, .getfield 775, .iaload, .iconst 2, .if_icmp .ne 7, .iconst 1, .goto 4]),
  (25, [.iconst 0, .istore_n 2, .aload_n 0, .bipush 25, .iconst 4, .invokevirtual 181, .istore_n 3, .iload_n 3, .ifCond .ge 33, .iload_n 2, .ifCond .ne 29, .aload_n 0, .bipush 40, .invokevirtual 195, .ifCond .ne 20, .aload_n 0, .bipush 22, .invokevirtual 177, .ifCond .ne 11, .aload_n 0, .iconst 1, .invokevirtual 179, .goto 13]),
  (26, [.istore_n 2, .aload_n 0, .bipush 25, .iconst 4, .invokevirtual 181, .istore_n 3, .iload_n 3, .ifCond .ge 33, .iload_n 2, .ifCond .ne 29, .aload_n 0, .bipush 40, .invokevirtual 195, .ifCond .ne 20, .aload_n 0, .bipush 22, .invokevirtual 177, .ifCond .ne 11, .aload_n 0, .iconst 1, .invokevirtual 179, .goto 13]),
  (69, [.iload_n 1, .iconst 5, .if_icmp .ne 8, .aload_n 0, .iconst 5, .invokevirtual 179, .aload_n 0, .getfield 776, .ifCond .le 4, .return_]),
  (79, [.aload_n 0, .getfield 776, .ifCond .le 4, .return_]),
  (87, [.aload_n 0, .bipush 22, .invokevirtual 186, .ifCond .eq 19, .aload_n 0, .iload_n 1, .iconst 1, .iadd, .invokevirtual 194, .aload_n 0, .iconst 3, .iconst 0, .invokevirtual 196, .goto 69]),
  (112, [.aload_n 0, .bipush 40, .invokevirtual 197, .ifCond .eq 19, .aload_n 0, .iload_n 1, .iconst 1, .iadd, .invokevirtual 190, .aload_n 0, .bipush 41, .invokevirtual 198, .goto 44]),
  (137, [.aload_n 0, .iload_n 2, .ifCond .eq 7, .iconst 1, .goto 4]),
  (146, [.iconst 2, .iload_n 2, .ifCond .eq 16, .aload_n 0, .getfield 774, .aload_n 0, .getfield 775, .laload, .l2i, .goto 4]),
  (147, [.iload_n 2, .ifCond .eq 16, .aload_n 0, .getfield 774, .aload_n 0, .getfield 775, .laload, .l2i, .goto 4]),
  (164, [.iload_n 3, .invokevirtual 196, .aload_n 0, .dup, .getfield 775, .iconst 1, .iadd, .putfield 775, .return_]),
  (165, [.invokevirtual 196, .aload_n 0, .dup, .getfield 775, .iconst 1, .iadd, .putfield 775, .return_]),
  (178, [.return_])]
/-- ShoeOrchardModel.isSign(I)Z -/
def P195 : List (Nat × List Instr) := [
  (0, [.aload_n 0, .getfield 776, .ifCond .ne 35, .aload_n 0, .getfield 772, .aload_n 0, .getfield 775, .iaload, .iconst 3, .if_icmp .ne 22, .aload_n 0, .getfield 774, .aload_n 0, .getfield 775, .laload, .iload_n 1, .i2l, .lcmp, .ifCond .ne 7, .iconst 1, .goto 4]),
  (39, [.iconst 0, .ireturn]),
  (40, [.ireturn])]
/-- ShoeOrchardModel.emit(II)V -/
def P196 : List (Nat × List Instr) := [
  (0, [.aload_n 0, .getfield 779, .sipush 1100, .aload_n 0, .getfield 781, .iadd, .iload_n 1, .iastore, .aload_n 0, .getfield 780, .sipush 1100, .aload_n 0, .getfield 781, .iadd, .iload_n 2, .iastore, .aload_n 0, .dup, .getfield 781, .iconst 1, .iadd, .putfield 781, .return_])]
/-- ShoeOrchardModel.hasSign(I)Z -/
def P197 : List (Nat × List Instr) := [
  (0, [.aload_n 0, .iload_n 1, .invokevirtual 195, .istore_n 2, .aload_n 0, .dup, .getfield 775, .iload_n 2, .ifCond .eq 7, .iconst 1, .goto 4]),
  (19, [.iconst 0, .iadd, .putfield 775, .iload_n 2, .ireturn]),
  (20, [.iadd, .putfield 775, .iload_n 2, .ireturn])]
/-- ShoeOrchardModel.takeSign(I)V -/
def P198 : List (Nat × List Instr) := [
  (0, [.aload_n 0, .iload_n 1, .invokevirtual 195, .ifCond .eq 16, .aload_n 0, .dup, .getfield 775, .iconst 1, .iadd, .putfield 775, .goto 8]),
  (21, [.aload_n 0, .iconst 1, .invokevirtual 179, .return_]),
  (26, [.return_])]
/-- ShoeOrchardModel.morning()I -/
def P199 : List (Nat × List Instr) := [
  (0, [.aload_n 0, .iconst 0, .putfield 768, .aload_n 0, .invokevirtual 171, .iconst 0, .istore_n 1]),
  (11, [.aload_n 0, .getfield 776, .ifCond .ne 185, .aload_n 0, .getfield 772, .aload_n 0, .getfield 775, .iaload, .ifCond .eq 173, .aload_n 0, .bipush 9, .iconst 5, .invokevirtual 181, .istore_n 2, .iload_n 2, .ifCond .ge 11, .aload_n 0, .iconst 1, .invokevirtual 179, .goto 144]),
  (50, [.iload_n 1, .bipush 40, .if_icmp .ne 11, .aload_n 0, .iconst 5, .invokevirtual 179, .goto 130]),
  (64, [.aload_n 0, .dup, .getfield 775, .iconst 1, .iadd, .putfield 775, .bipush 125, .iconst 3, .iload_n 1, .imul, .iadd, .istore_n 3, .aload_n 0, .getfield 789, .iload_n 3, .iload_n 2, .iastore, .aload_n 0, .getfield 789, .iload_n 3, .iconst 1, .iadd, .iload_n 2, .iconst 4, .if_icmp .ne 7, .iconst 0, .goto 20]),
  (104, [.aload_n 0, .iload_n 2, .iconst 2, .if_icmp .ge 8, .bipush 20, .goto 4]),
  (115, [.iconst 0, .bipush (-2), .invokevirtual 200, .iastore, .aload_n 0, .getfield 789, .iload_n 3, .iconst 2, .iadd, .iload_n 2, .ifCond .ne 13, .aload_n 0, .iconst 0, .bipush (-2), .invokevirtual 200, .goto 47]),
  (116, [.bipush (-2), .invokevirtual 200, .iastore, .aload_n 0, .getfield 789, .iload_n 3, .iconst 2, .iadd, .iload_n 2, .ifCond .ne 13, .aload_n 0, .iconst 0, .bipush (-2), .invokevirtual 200, .goto 47]),
  (121, [.iastore, .aload_n 0, .getfield 789, .iload_n 3, .iconst 2, .iadd, .iload_n 2, .ifCond .ne 13, .aload_n 0, .iconst 0, .bipush (-2), .invokevirtual 200, .goto 47]),
  (143, [.iload_n 2, .iconst 1, .if_icmp .ne 20, .aload_n 0, .bipush 20, .aload_n 0, .getfield 789, .iload_n 3, .iconst 1, .iadd, .iaload, .invokevirtual 200, .goto 25]),
  (165, [.iload_n 2, .iconst 2, .if_icmp .ne 19, .aload_n 0, .iconst 0, .aload_n 0, .getfield 789, .iload_n 3, .iconst 1, .iadd, .iaload, .invokevirtual 200, .goto 4]),
  (186, [.iconst 0, .iastore, .iinc 1 1, .aload_n 0, .bipush 59, .invokevirtual 198, .goto (-186)]),
  (187, [.iastore, .iinc 1 1, .aload_n 0, .bipush 59, .invokevirtual 198, .goto (-186)]),
  (191, [.aload_n 0, .bipush 59, .invokevirtual 198, .goto (-186)]),
  (200, [.aload_n 0, .getfield 776, .ifCond .le 8, .aload_n 0, .getfield 776, .ireturn]),
  (212, [.aload_n 0, .getfield 789, .iconst 0, .iload_n 1, .iastore, .iconst 0, .istore_n 2]),
  (221, [.iload_n 2, .iconst 3, .iload_n 1, .imul, .if_icmp .ge 26, .aload_n 0, .getfield 789, .iconst 1, .iload_n 2, .iadd, .aload_n 0, .getfield 789, .bipush 125, .iload_n 2, .iadd, .iaload, .iastore, .iinc 2 1, .goto (-27)]),
  (251, [.iconst 0, .ireturn])]
/-- ShoeOrchardModel.takeTold(II)I -/
def P200 : List (Nat × List Instr) := [
  (0, [.aload_n 0, .getfield 776, .ifCond .ne 15, .aload_n 0, .invokevirtual 180, .ifCond .ne 8, .aload_n 0, .iconst 1, .invokevirtual 179, .aload_n 0, .getfield 776, .ifCond .le 7, .iconst (-1), .goto 10]),
  (19, [.aload_n 0, .getfield 776, .ifCond .le 7, .iconst (-1), .goto 10]),
  (30, [.aload_n 0, .iconst 0, .invokevirtual 182, .iload_n 1, .isub, .istore_n 3, .aload_n 0, .getfield 776, .ifCond .ne 20, .iload_n 3, .iconst 0, .iconst 5, .invokestatic 201, .ifCond .ne 11, .aload_n 0, .iconst 2, .invokevirtual 179, .goto 20]),
  (37, [.istore_n 3, .aload_n 0, .getfield 776, .ifCond .ne 20, .iload_n 3, .iconst 0, .iconst 5, .invokestatic 201, .ifCond .ne 11, .aload_n 0, .iconst 2, .invokevirtual 179, .goto 20]),
  (62, [.aload_n 0, .getfield 776, .ifCond .ne 13, .iload_n 3, .iload_n 2, .if_icmp .ne 8, .aload_n 0, .iconst 3, .invokevirtual 179, .aload_n 0, .dup, .getfield 775, .aload_n 0, .getfield 776, .ifCond .le 7, .iconst 0, .goto 4]),
  (79, [.aload_n 0, .dup, .getfield 775, .aload_n 0, .getfield 776, .ifCond .le 7, .iconst 0, .goto 4]),
  (95, [.iconst 1, .iadd, .putfield 775, .aload_n 0, .getfield 776, .ifCond .le 7, .iconst 0, .goto 4]),
  (96, [.iadd, .putfield 775, .aload_n 0, .getfield 776, .ifCond .le 7, .iconst 0, .goto 4]),
  (111, [.iload_n 3, .ireturn]),
  (112, [.ireturn])]
/-- ShoeOrchardModel.within(III)Z -/
def P201 : List (Nat × List Instr) := [
  (0, [.iload_n 0, .iload_n 1, .if_icmp .lt 12, .iload_n 0, .iload_n 2, .if_icmp .gt 7, .iconst 1, .goto 4]),
  (14, [.iconst 0, .ireturn]),
  (15, [.ireturn])]
/-- ShoeOrchardModel.tree(II)I -/
def P202 : List (Nat × List Instr) := [
  (0, [.aload_n 0, .iconst 0, .putfield 768, .aload_n 0, .iload_n 1, .invokevirtual 203, .ifCond .eq 12, .iload_n 2, .iconst 0, .iconst 4, .invokestatic 201, .ifCond .ne 6, .bipush (-2), .ireturn]),
  (22, [.bipush (-2), .ireturn]),
  (25, [.iload_n 2, .tableswitch 76 0 3 #[30, 37, 46, 56]]),
  (56, [.aload_n 0, .iload_n 1, .iconst 0, .invokevirtual 167, .ireturn]),
  (63, [.aload_n 0, .getfield 792, .iconst 1, .iload_n 1, .iadd, .iaload, .ireturn]),
  (72, [.aload_n 0, .getfield 792, .bipush 7, .iload_n 1, .iadd, .iaload, .ireturn]),
  (82, [.aload_n 0, .iconst 0, .iload_n 1, .invokevirtual 204, .ifCond .eq 12, .aload_n 0, .iconst 0, .iload_n 1, .invokevirtual 207, .goto 4]),
  (100, [.iconst (-1), .ireturn]),
  (101, [.ireturn]),
  (102, [.aload_n 0, .iconst 0, .iload_n 1, .invokevirtual 210, .ireturn])]
/-- ShoeOrchardModel.isTree(I)Z -/
def P203 : List (Nat × List Instr) := [
  (0, [.iload_n 1, .ifCond .lt 15, .iload_n 1, .aload_n 0, .invokevirtual 166, .if_icmp .ge 7, .iconst 1, .goto 4]),
  (16, [.iconst 0, .ireturn]),
  (17, [.ireturn])]
/-- ShoeOrchardModel.doesBear(II)Z -/
def P204 : List (Nat × List Instr) := [
  (0, [.aload_n 0, .iload_n 2, .aload_n 0, .iload_n 1, .invokevirtual 205, .invokevirtual 206, .ireturn])]
/-- ShoeOrchardModel.frostOf(I)I -/
def P205 : List (Nat × List Instr) := [
  (0, [.aload_n 0, .getfield 778, .bipush 36, .aload_n 0, .getfield 792, .iload_n 1, .iconst 0, .iadd, .iaload, .aload_n 0, .getfield 778, .iconst 4, .iaload, .irem, .iadd, .iaload, .ireturn])]
/-- ShoeOrchardModel.stands(II)Z -/
def P206 : List (Nat × List Instr) := [
  (0, [.aload_n 0, .iload_n 1, .iconst 0, .invokevirtual 167, .istore_n 3, .iload_n 2, .iload_n 3, .ifCond .ne 7, .iconst 1, .goto 22]),
  (16, [.iload_n 3, .iconst 1, .if_icmp .ne 7, .iconst 3, .goto 13]),
  (25, [.iload_n 3, .iconst 2, .if_icmp .ne 7, .iconst 0, .goto 4]),
  (34, [.iconst 2, .if_icmp .gt 7, .iconst 1, .goto 4]),
  (35, [.if_icmp .gt 7, .iconst 1, .goto 4]),
  (42, [.iconst 0, .ireturn]),
  (43, [.ireturn])]
/-- ShoeOrchardModel.sizeOf(II)I -/
def P207 : List (Nat × List Instr) := [
  (0, [.aload_n 0, .getfield 790, .iconst 0, .aload_n 0, .getfield 792, .iload_n 1, .iconst 1, .iadd, .iload_n 2, .iadd, .iaload, .iastore, .aload_n 0, .getfield 790, .iconst 1, .aload_n 0, .getfield 792, .iload_n 1, .bipush 7, .iadd, .iload_n 2, .iadd, .iaload, .iastore, .aload_n 0, .getfield 790, .iconst 2, .aload_n 0, .iload_n 1, .invokevirtual 205, .iastore, .aload_n 0, .getfield 790, .iconst 3, .aload_n 0, .getfield 792, .iload_n 1, .iconst 0, .iadd, .iaload, .iastore, .aload_n 0, .getfield 778, .iconst 5, .iaload, .ifCond .ge 12, .aload_n 0, .getfield 790, .iconst 0, .iaload, .goto 13]),
  (76, [.aload_n 0, .aload_n 0, .getfield 778, .iconst 5, .iaload, .invokevirtual 208, .istore_n 3, .iload_n 3, .ifCond .ge 7, .iconst 0, .goto 15]),
  (86, [.istore_n 3, .iload_n 3, .ifCond .ge 7, .iconst 0, .goto 15]),
  (95, [.iload_n 3, .bipush 40, .if_icmp .le 8, .bipush 40, .goto 4]),
  (106, [.iload_n 3, .ireturn]),
  (107, [.ireturn])]
/-- ShoeOrchardModel.worthAt(I)I -/
def P208 : List (Nat × List Instr) := [
  (0, [.iconst 0, .istore_n 2, .iload_n 1, .istore_n 3]),
  (4, [.aload_n 0, .getfield 779, .iload_n 3, .iaload, .ifCond .eq 130, .aload_n 0, .getfield 779, .iload_n 3, .iaload, .istore 4, .iload 4, .iconst 1, .if_icmp .eq 9, .iload 4, .iconst 2, .if_icmp .ne 41, .aload_n 0, .getfield 791, .iload_n 2, .iload 4, .iconst 1, .if_icmp .ne 12, .aload_n 0, .getfield 780, .iload_n 3, .iaload, .goto 14]),
  (33, [.aload_n 0, .getfield 791, .iload_n 2, .iload 4, .iconst 1, .if_icmp .ne 12, .aload_n 0, .getfield 780, .iload_n 3, .iaload, .goto 14]),
  (53, [.aload_n 0, .getfield 790, .aload_n 0, .getfield 780, .iload_n 3, .iaload, .iaload, .iastore, .iinc 2 1, .goto 66]),
  (64, [.iastore, .iinc 2 1, .goto 66]),
  (71, [.iload 4, .iconst 3, .if_icmp .ne 30, .aload_n 0, .getfield 791, .iload_n 2, .iconst 1, .isub, .aload_n 0, .getfield 791, .iload_n 2, .iconst 1, .isub, .iaload, .ifCond .ne 7, .iconst 1, .goto 4]),
  (99, [.iconst 0, .iastore, .goto 33]),
  (100, [.iastore, .goto 33]),
  (104, [.iinc 2 (-1), .aload_n 0, .getfield 791, .iload_n 2, .iconst 1, .isub, .iload 4, .aload_n 0, .getfield 791, .iload_n 2, .iconst 1, .isub, .iaload, .aload_n 0, .getfield 791, .iload_n 2, .iaload, .invokestatic 209, .iastore, .iinc 3 1, .goto (-133)]),
  (134, [.iinc 3 1, .goto (-133)]),
  (140, [.aload_n 0, .getfield 791, .iconst 0, .iaload, .ireturn])]
/-- ShoeOrchardModel.both(III)I -/
def P209 : List (Nat × List Instr) := [
  (0, [.iload_n 0, .tableswitch 87 4 9 #[39, 43, 47, 51, 62, 73]]),
  (40, [.iload_n 1, .iload_n 2, .iadd, .ireturn]),
  (44, [.iload_n 1, .iload_n 2, .isub, .ireturn]),
  (48, [.iload_n 1, .iload_n 2, .imul, .ireturn]),
  (52, [.iload_n 1, .iload_n 2, .if_icmp .ge 7, .iconst 1, .goto 4]),
  (61, [.iconst 0, .ireturn]),
  (62, [.ireturn]),
  (63, [.iload_n 1, .iload_n 2, .if_icmp .ne 7, .iconst 1, .goto 4]),
  (72, [.iconst 0, .ireturn]),
  (73, [.ireturn]),
  (74, [.iload_n 1, .ifCond .eq 11, .iload_n 2, .ifCond .eq 7, .iconst 1, .goto 4]),
  (86, [.iconst 0, .ireturn]),
  (87, [.ireturn]),
  (88, [.iload_n 1, .ifCond .ne 7, .iload_n 2, .ifCond .eq 7, .iconst 1, .goto 4]),
  (96, [.iconst 1, .goto 4]),
  (100, [.iconst 0, .ireturn]),
  (101, [.ireturn])]
/-- ShoeOrchardModel.haveOf(II)I -/
def P210 : List (Nat × List Instr) := [
  (0, [.iconst 0, .istore_n 3, .iconst 0, .istore 4]),
  (5, [.iload 4, .aload_n 0, .invokevirtual 168, .if_icmp .ge 36, .iload_n 3, .aload_n 0, .getfield 792, .iload_n 1, .bipush 19, .iadd, .iload 4, .iadd, .iaload, .iload_n 2, .if_icmp .ne 10, .iconst 1, .iload 4, .ishl, .goto 4]),
  (38, [.iconst 0, .ior, .istore_n 3, .iinc 4 1, .goto (-39)]),
  (39, [.ior, .istore_n 3, .iinc 4 1, .goto (-39)]),
  (47, [.iload_n 3, .ireturn])]
/-- ShoeOrchardModel.person(II)I -/
def P211 : List (Nat × List Instr) := [
  (0, [.aload_n 0, .iconst 0, .putfield 768, .aload_n 0, .iload_n 1, .invokevirtual 212, .ifCond .eq 12, .iload_n 2, .iconst 0, .iconst 5, .invokestatic 201, .ifCond .ne 6, .bipush (-2), .ireturn]),
  (22, [.bipush (-2), .ireturn]),
  (25, [.iload_n 2, .tableswitch 81 0 4 #[34, 41, 51, 61, 71]]),
  (60, [.aload_n 0, .iload_n 1, .iconst 0, .invokevirtual 169, .ireturn]),
  (67, [.aload_n 0, .getfield 792, .bipush 13, .iload_n 1, .iadd, .iaload, .ireturn]),
  (77, [.aload_n 0, .getfield 792, .bipush 19, .iload_n 1, .iadd, .iaload, .ireturn]),
  (87, [.aload_n 0, .getfield 792, .bipush 25, .iload_n 1, .iadd, .iaload, .ireturn]),
  (97, [.aload_n 0, .getfield 792, .bipush 31, .iload_n 1, .iadd, .iaload, .ireturn]),
  (107, [.aload_n 0, .getfield 792, .bipush 37, .iload_n 1, .iadd, .iaload, .ireturn])]
/-- ShoeOrchardModel.isPerson(I)Z -/
def P212 : List (Nat × List Instr) := [
  (0, [.iload_n 1, .ifCond .lt 15, .iload_n 1, .aload_n 0, .invokevirtual 168, .if_icmp .ge 7, .iconst 1, .goto 4]),
  (16, [.iconst 0, .ireturn]),
  (17, [.ireturn])]
/-- ShoeOrchardModel.fits(II)Z -/
def P213 : List (Nat × List Instr) := [
  (0, [.aload_n 0, .iconst 0, .putfield 768, .aload_n 0, .iload_n 1, .invokevirtual 212, .ifCond .eq 25, .aload_n 0, .iload_n 2, .invokevirtual 203, .ifCond .eq 17, .aload_n 0, .iconst 0, .iload_n 1, .iload_n 2, .invokevirtual 214, .ifCond .eq 7, .iconst 1, .goto 4]),
  (35, [.iconst 0, .ireturn]),
  (36, [.ireturn])]
/-- ShoeOrchardModel.doesFit(III)Z -/
def P214 : List (Nat × List Instr) := [
  (0, [.aload_n 0, .iload_n 1, .iload_n 3, .invokevirtual 204, .ifCond .eq 22, .aload_n 0, .iload_n 1, .iload_n 2, .aload_n 0, .iload_n 1, .iload_n 3, .invokevirtual 207, .invokevirtual 215, .ifCond .ne 7, .iconst 1, .goto 4]),
  (28, [.iconst 0, .ireturn]),
  (29, [.ireturn])]
/-- ShoeOrchardModel.pinchBy(III)I -/
def P215 : List (Nat × List Instr) := [
  (0, [.aload_n 0, .iload_n 2, .iconst 0, .invokevirtual 169, .istore 4, .aload_n 0, .getfield 792, .iload_n 1, .bipush 13, .iadd, .iload_n 2, .iadd, .iaload, .istore 5, .iload_n 3, .iload 5, .invokestatic 216, .aload_n 0, .getfield 778, .iconst 2, .iaload, .isub, .iload 4, .iconst 3, .if_icmp .ne 7, .iconst 1, .goto 4]),
  (44, [.iconst 0, .isub, .istore 6, .iconst 2, .iload_n 3, .imul, .iload 5, .invokestatic 216, .aload_n 0, .getfield 778, .iconst 2, .iaload, .isub, .istore 7, .iload 4, .iconst 2, .if_icmp .ne 15, .iload 7, .iload 6, .if_icmp .ge 8, .iload 7, .goto 5]),
  (45, [.isub, .istore 6, .iconst 2, .iload_n 3, .imul, .iload 5, .invokestatic 216, .aload_n 0, .getfield 778, .iconst 2, .iaload, .isub, .istore 7, .iload 4, .iconst 2, .if_icmp .ne 15, .iload 7, .iload 6, .if_icmp .ge 8, .iload 7, .goto 5]),
  (83, [.iload 6, .istore 6, .iload 6, .ifCond .ge 7, .iconst 0, .goto 5]),
  (85, [.istore 6, .iload 6, .ifCond .ge 7, .iconst 0, .goto 5]),
  (96, [.iload 6, .ireturn]),
  (98, [.ireturn])]
/-- ShoeOrchardModel.apart(II)I -/
def P216 : List (Nat × List Instr) := [
  (0, [.iload_n 0, .iload_n 1, .if_icmp .ge 9, .iload_n 1, .iload_n 0, .isub, .goto 6]),
  (11, [.iload_n 0, .iload_n 1, .isub, .ireturn]),
  (14, [.ireturn])]
/-- ShoeOrchardModel.tryOn(II)I -/
def P217 : List (Nat × List Instr) := [
  (0, [.aload_n 0, .iconst 0, .putfield 768, .aload_n 0, .iload_n 1, .invokevirtual 212, .ifCond .eq 21, .aload_n 0, .iload_n 2, .invokevirtual 203, .ifCond .eq 13, .aload_n 0, .iconst 0, .iload_n 1, .iload_n 2, .invokevirtual 218, .ifCond .ne 5, .iconst (-1), .ireturn]),
  (31, [.iconst (-1), .ireturn]),
  (33, [.aload_n 0, .invokevirtual 219, .aload_n 0, .iconst 0, .iload_n 1, .iload_n 2, .invokevirtual 221, .ifCond .eq 7, .iconst 1, .goto 4]),
  (51, [.iconst 0, .ireturn]),
  (52, [.ireturn])]
/-- ShoeOrchardModel.mayTry(III)Z -/
def P218 : List (Nat × List Instr) := [
  (0, [.aload_n 0, .getfield 792, .iload_n 1, .bipush 19, .iadd, .iload_n 2, .iadd, .iaload, .ifCond .ge 45, .aload_n 0, .getfield 792, .iload_n 1, .bipush 25, .iadd, .iload_n 2, .iadd, .iaload, .aload_n 0, .getfield 778, .iconst 3, .iaload, .if_icmp .ge 25, .aload_n 0, .iload_n 1, .iload_n 3, .invokevirtual 204, .ifCond .eq 16, .aload_n 0, .iload_n 1, .iload_n 3, .invokevirtual 210, .ifCond .ne 7, .iconst 1, .goto 4]),
  (56, [.iconst 0, .ireturn]),
  (57, [.ireturn])]
/-- ShoeOrchardModel.keeps()V -/
def P219 : List (Nat × List Instr) := [
  (0, [.aload_n 0, .getfield 793, .bipush 16, .if_icmp .ne 47, .iconst 1, .istore_n 1]),
  (11, [.iload_n 1, .bipush 16, .if_icmp .ge 29, .aload_n 0, .bipush 60, .iconst 5, .iload_n 1, .iadd, .imul, .bipush 60, .iconst 5, .iload_n 1, .iadd, .iconst 1, .isub, .imul, .bipush 43, .invokevirtual 220, .iinc 1 1, .goto (-29)]),
  (43, [.aload_n 0, .dup, .getfield 793, .iconst 1, .isub, .putfield 793, .aload_n 0, .iconst 0, .bipush 60, .iconst 5, .aload_n 0, .getfield 793, .iadd, .imul, .bipush 43, .invokevirtual 220, .aload_n 0, .dup, .getfield 793, .iconst 1, .iadd, .putfield 793, .return_]),
  (53, [.aload_n 0, .iconst 0, .bipush 60, .iconst 5, .aload_n 0, .getfield 793, .iadd, .imul, .bipush 43, .invokevirtual 220, .aload_n 0, .dup, .getfield 793, .iconst 1, .iadd, .putfield 793, .return_])]
/-- ShoeOrchardModel.copies(III)V -/
def P220 : List (Nat × List Instr) := [
  (0, [.iconst 0, .istore 4]),
  (3, [.iload 4, .iload_n 3, .if_icmp .ge 27, .aload_n 0, .getfield 792, .iload_n 2, .iload 4, .iadd, .aload_n 0, .getfield 792, .iload_n 1, .iload 4, .iadd, .iaload, .iastore, .iinc 4 1, .goto (-27)]),
  (33, [.return_])]
/-- ShoeOrchardModel.tries(III)Z -/
def P221 : List (Nat × List Instr) := [
  (0, [.aload_n 0, .iload_n 1, .iload_n 2, .iload_n 3, .invokevirtual 214, .istore 4, .aload_n 0, .getfield 792, .iload_n 1, .bipush 25, .iadd, .iload_n 2, .iadd, .dup2, .iaload, .iconst 1, .iadd, .iastore, .iload 4, .ifCond .eq 10, .aload_n 0, .iload_n 1, .iload_n 2, .iload_n 3, .invokevirtual 222, .iload 4, .ireturn]),
  (36, [.iload 4, .ireturn])]
/-- ShoeOrchardModel.isShodBy(III)V -/
def P222 : List (Nat × List Instr) := [
  (0, [.aload_n 0, .getfield 792, .iload_n 1, .bipush 19, .iadd, .iload_n 2, .iadd, .iload_n 3, .iastore, .aload_n 0, .getfield 792, .iload_n 1, .bipush 31, .iadd, .iload_n 2, .iadd, .dup2, .iaload, .aload_n 0, .iload_n 3, .invokevirtual 223, .iadd, .iastore, .return_])]
/-- ShoeOrchardModel.roadBy(I)I -/
def P223 : List (Nat × List Instr) := [
  (0, [.aload_n 0, .iload_n 1, .iconst 0, .invokevirtual 167, .istore_n 2, .iload_n 2, .ifCond .ne 7, .iconst 3, .goto 22]),
  (15, [.iload_n 2, .iconst 1, .if_icmp .ne 7, .iconst 2, .goto 13]),
  (24, [.iload_n 2, .iconst 2, .if_icmp .ne 7, .iconst 0, .goto 4]),
  (33, [.iconst 1, .ireturn]),
  (34, [.ireturn])]
/-- ShoeOrchardModel.share(II)Z -/
def P224 : List (Nat × List Instr) := [
  (0, [.aload_n 0, .iconst 0, .putfield 768, .aload_n 0, .iload_n 1, .invokevirtual 212, .ifCond .eq 26, .aload_n 0, .iload_n 2, .invokevirtual 212, .ifCond .eq 18, .iload_n 1, .iload_n 2, .if_icmp .eq 13, .aload_n 0, .iconst 0, .iload_n 1, .iload_n 2, .invokevirtual 225, .ifCond .ne 5, .iconst 0, .ireturn]),
  (36, [.iconst 0, .ireturn]),
  (38, [.aload_n 0, .invokevirtual 219, .aload_n 0, .iconst 0, .iload_n 1, .iload_n 2, .invokevirtual 226, .iconst 1, .ireturn])]
/-- ShoeOrchardModel.mayShare(III)Z -/
def P225 : List (Nat × List Instr) := [
  (0, [.aload_n 0, .getfield 792, .iload_n 1, .bipush 19, .iadd, .iload_n 2, .iadd, .iaload, .istore 4, .iload 4, .ifCond .lt 46, .aload_n 0, .getfield 792, .iload_n 1, .bipush 37, .iadd, .iload_n 2, .iadd, .iaload, .ifCond .ge 32, .aload_n 0, .getfield 792, .iload_n 1, .bipush 19, .iadd, .iload_n 3, .iadd, .iaload, .ifCond .ge 18, .aload_n 0, .iload_n 1, .iload_n 3, .iload 4, .invokevirtual 214, .ifCond .eq 7, .iconst 1, .goto 4]),
  (61, [.iconst 0, .ireturn]),
  (62, [.ireturn])]
/-- ShoeOrchardModel.shares(III)V -/
def P226 : List (Nat × List Instr) := [
  (0, [.aload_n 0, .iload_n 1, .iload_n 3, .aload_n 0, .getfield 792, .iload_n 1, .bipush 19, .iadd, .iload_n 2, .iadd, .iaload, .invokevirtual 222, .aload_n 0, .getfield 792, .iload_n 1, .bipush 37, .iadd, .iload_n 2, .iadd, .iload_n 3, .iastore, .aload_n 0, .getfield 792, .iload_n 1, .bipush 37, .iadd, .iload_n 3, .iadd, .iload_n 2, .iastore, .return_])]
/-- ShoeOrchardModel.graft(II)I -/
def P227 : List (Nat × List Instr) := [
  (0, [.aload_n 0, .iconst 0, .putfield 768, .aload_n 0, .iload_n 1, .invokevirtual 203, .ifCond .eq 16, .aload_n 0, .iload_n 2, .invokevirtual 203, .ifCond .eq 8, .iload_n 1, .iload_n 2, .if_icmp .ne 5, .iconst (-1), .ireturn]),
  (26, [.iconst (-1), .ireturn]),
  (28, [.aload_n 0, .invokevirtual 219, .aload_n 0, .iconst 0, .iload_n 1, .iload_n 2, .invokevirtual 228, .aload_n 0, .getfield 792, .iconst 1, .iload_n 1, .iadd, .iaload, .ireturn])]
/-- ShoeOrchardModel.grafts(III)V -/
def P228 : List (Nat × List Instr) := [
  (0, [.aload_n 0, .getfield 792, .iload_n 1, .iconst 1, .iadd, .iload_n 2, .iadd, .aload_n 0, .getfield 792, .iload_n 1, .iconst 1, .iadd, .iload_n 2, .iadd, .iaload, .aload_n 0, .getfield 792, .iload_n 1, .iconst 1, .iadd, .iload_n 3, .iadd, .iaload, .iadd, .iconst 2, .idiv, .iastore, .return_])]
/-- ShoeOrchardModel.prune(I)I -/
def P229 : List (Nat × List Instr) := [
  (0, [.aload_n 0, .iconst 0, .putfield 768, .aload_n 0, .iload_n 1, .invokevirtual 203, .ifCond .ne 5, .iconst (-1), .ireturn]),
  (15, [.aload_n 0, .invokevirtual 219, .aload_n 0, .iconst 0, .iload_n 1, .invokevirtual 230, .aload_n 0, .getfield 792, .iconst 1, .iload_n 1, .iadd, .iaload, .ireturn])]
/-- ShoeOrchardModel.prunes(II)V -/
def P230 : List (Nat × List Instr) := [
  (0, [.aload_n 0, .getfield 792, .iload_n 1, .iconst 1, .iadd, .iload_n 2, .iadd, .dup2, .iaload, .aload_n 0, .getfield 792, .iload_n 1, .iconst 1, .iadd, .iload_n 2, .iadd, .iaload, .ifCond .le 7, .iconst 1, .goto 4]),
  (28, [.iconst 0, .isub, .iastore, .return_]),
  (29, [.isub, .iastore, .return_])]
/-- ShoeOrchardModel.year()I -/
def P231 : List (Nat × List Instr) := [
  (0, [.aload_n 0, .iconst 0, .putfield 768, .aload_n 0, .invokevirtual 219, .aload_n 0, .iconst 0, .aload_n 0, .iconst 0, .invokevirtual 205, .invokevirtual 232, .aload_n 0, .getfield 792, .iconst 0, .iaload, .ireturn])]
/-- ShoeOrchardModel.passes(II)V -/
def P232 : List (Nat × List Instr) := [
  (0, [.iconst 0, .istore_n 3]),
  (2, [.iload_n 3, .aload_n 0, .invokevirtual 166, .if_icmp .ge 59, .aload_n 0, .iload_n 3, .iload_n 2, .invokevirtual 206, .ifCond .ne 9, .aload_n 0, .iload_n 1, .iload_n 3, .invokevirtual 230, .aload_n 0, .getfield 792, .iload_n 1, .bipush 7, .iadd, .iload_n 3, .iadd, .dup2, .iaload, .aload_n 0, .getfield 792, .iload_n 1, .bipush 7, .iadd, .iload_n 3, .iadd, .iaload, .bipush 99, .if_icmp .ge 7, .iconst 1, .goto 4]),
  (25, [.aload_n 0, .getfield 792, .iload_n 1, .bipush 7, .iadd, .iload_n 3, .iadd, .dup2, .iaload, .aload_n 0, .getfield 792, .iload_n 1, .bipush 7, .iadd, .iload_n 3, .iadd, .iaload, .bipush 99, .if_icmp .ge 7, .iconst 1, .goto 4]),
  (57, [.iconst 0, .iadd, .iastore, .iinc 3 1, .goto (-61)]),
  (58, [.iadd, .iastore, .iinc 3 1, .goto (-61)]),
  (66, [.iconst 0, .istore_n 3]),
  (68, [.iload_n 3, .aload_n 0, .invokevirtual 168, .if_icmp .ge 99, .aload_n 0, .getfield 792, .iload_n 1, .bipush 13, .iadd, .iload_n 3, .iadd, .iaload, .aload_n 0, .iload_n 3, .iconst 0, .invokevirtual 169, .iconst 1, .if_icmp .ne 7, .iconst 2, .goto 4]),
  (101, [.iconst 0, .iadd, .istore 4, .aload_n 0, .getfield 792, .iload_n 1, .bipush 13, .iadd, .iload_n 3, .iadd, .iload 4, .bipush 40, .if_icmp .le 8, .bipush 40, .goto 5]),
  (102, [.iadd, .istore 4, .aload_n 0, .getfield 792, .iload_n 1, .bipush 13, .iadd, .iload_n 3, .iadd, .iload 4, .bipush 40, .if_icmp .le 8, .bipush 40, .goto 5]),
  (127, [.iload 4, .iastore, .aload_n 0, .getfield 792, .iload_n 1, .bipush 19, .iadd, .iload_n 3, .iadd, .iconst (-1), .iastore, .aload_n 0, .getfield 792, .iload_n 1, .bipush 25, .iadd, .iload_n 3, .iadd, .iconst 0, .iastore, .aload_n 0, .getfield 792, .iload_n 1, .bipush 37, .iadd, .iload_n 3, .iadd, .iconst (-1), .iastore, .iinc 3 1, .goto (-101)]),
  (129, [.iastore, .aload_n 0, .getfield 792, .iload_n 1, .bipush 19, .iadd, .iload_n 3, .iadd, .iconst (-1), .iastore, .aload_n 0, .getfield 792, .iload_n 1, .bipush 25, .iadd, .iload_n 3, .iadd, .iconst 0, .iastore, .aload_n 0, .getfield 792, .iload_n 1, .bipush 37, .iadd, .iload_n 3, .iadd, .iconst (-1), .iastore, .iinc 3 1, .goto (-101)]),
  (172, [.aload_n 0, .getfield 792, .iload_n 1, .iconst 0, .iadd, .dup2, .iaload, .iconst 1, .iadd, .iastore, .return_])]
/-- ShoeOrchardModel.undo()Z -/
def P233 : List (Nat × List Instr) := [
  (0, [.aload_n 0, .iconst 0, .putfield 768, .aload_n 0, .getfield 793, .ifCond .ne 5, .iconst 0, .ireturn]),
  (14, [.aload_n 0, .dup, .getfield 793, .iconst 1, .isub, .putfield 793, .aload_n 0, .bipush 60, .iconst 5, .aload_n 0, .getfield 793, .iadd, .imul, .iconst 0, .bipush 43, .invokevirtual 220, .iconst 1, .ireturn])]
/-- ShoeOrchardModel.judged(I)I -/
def P234 : List (Nat × List Instr) := [
  (0, [.aload_n 0, .iconst 0, .putfield 768, .iload_n 1, .iconst 0, .iconst 2, .invokestatic 201, .ifCond .ne 6, .bipush (-2), .ireturn]),
  (17, [.aload_n 0, .sipush 1260, .invokevirtual 165, .iconst (-1), .istore_n 2, .iconst (-1), .istore_n 3, .iconst 0, .istore 4]),
  (31, [.iload 4, .aload_n 0, .getfield 789, .iconst 0, .iaload, .if_icmp .ge 231, .aload_n 0, .getfield 789, .iconst 1, .iconst 3, .iload 4, .imul, .iadd, .iaload, .istore 5, .aload_n 0, .getfield 789, .iconst 2, .iconst 3, .iload 4, .imul, .iadd, .iaload, .istore 6, .aload_n 0, .getfield 789, .iconst 3, .iconst 3, .iload 4, .imul, .iadd, .iaload, .istore 7, .iload 5, .ifCond .ne 17, .aload_n 0, .sipush 1260, .iload 6, .iload 7, .invokevirtual 218, .goto 28]),
  (100, [.iload 5, .iconst 1, .if_icmp .ne 17, .aload_n 0, .sipush 1260, .iload 6, .iload 7, .invokevirtual 225, .ifCond .eq 7, .iconst 1, .goto 4]),
  (120, [.iconst 1, .goto 4]),
  (124, [.iconst 0, .istore 8, .iload 8, .ifCond .ne 12, .iload_n 2, .ifCond .ge 8, .iload 4, .goto 4]),
  (125, [.istore 8, .iload 8, .ifCond .ne 12, .iload_n 2, .ifCond .ge 8, .iload 4, .goto 4]),
  (141, [.iload_n 2, .istore_n 2, .iload 8, .ifCond .eq 36, .iload 5, .ifCond .ne 31, .aload_n 0, .sipush 1260, .iload 6, .iload 7, .invokevirtual 221, .ifCond .ne 12, .iload_n 3, .ifCond .ge 8, .iload 4, .goto 4]),
  (142, [.istore_n 2, .iload 8, .ifCond .eq 36, .iload 5, .ifCond .ne 31, .aload_n 0, .sipush 1260, .iload 6, .iload 7, .invokevirtual 221, .ifCond .ne 12, .iload_n 3, .ifCond .ge 8, .iload 4, .goto 4]),
  (176, [.iload_n 3, .istore_n 3, .goto 86]),
  (177, [.istore_n 3, .goto 86]),
  (181, [.iload 8, .ifCond .eq 23, .iload 5, .iconst 1, .if_icmp .ne 17, .aload_n 0, .sipush 1260, .iload 6, .iload 7, .invokevirtual 226, .goto 61]),
  (206, [.iload 5, .iconst 2, .if_icmp .ne 17, .aload_n 0, .sipush 1260, .iload 6, .iload 7, .invokevirtual 228, .goto 41]),
  (226, [.iload 5, .iconst 3, .if_icmp .ne 15, .aload_n 0, .sipush 1260, .iload 6, .invokevirtual 230, .goto 23]),
  (244, [.iload 5, .iconst 4, .if_icmp .ne 17, .aload_n 0, .sipush 1260, .aload_n 0, .sipush 1260, .invokevirtual 205, .invokevirtual 232, .iinc 4 1, .goto (-236)]),
  (264, [.iinc 4 1, .goto (-236)]),
  (270, [.iload_n 1, .ifCond .ne 7, .iload_n 2, .goto 19]),
  (278, [.iload_n 1, .iconst 1, .if_icmp .ne 7, .iload_n 3, .goto 10]),
  (287, [.aload_n 0, .sipush 1260, .invokevirtual 235, .ireturn]),
  (294, [.ireturn])]
/-- ShoeOrchardModel.roadOfAll(I)I -/
def P235 : List (Nat × List Instr) := [
  (0, [.iconst 0, .istore_n 2, .iconst 0, .istore_n 3]),
  (4, [.iload_n 3, .aload_n 0, .invokevirtual 168, .if_icmp .ge 23, .iload_n 2, .aload_n 0, .getfield 792, .iload_n 1, .bipush 31, .iadd, .iload_n 3, .iadd, .iaload, .iadd, .istore_n 2, .iinc 3 1, .goto (-25)]),
  (32, [.iload_n 2, .ireturn])]
/-- ShoeOrchardModel.fitted(I)I -/
def P236 : List (Nat × List Instr) := [
  (0, [.aload_n 0, .iconst 0, .putfield 768, .aload_n 0, .iload_n 1, .invokevirtual 212, .ifCond .eq 12, .aload_n 0, .iconst 0, .iload_n 1, .invokevirtual 237, .goto 4]),
  (22, [.iconst (-1), .ireturn]),
  (23, [.ireturn])]
/-- ShoeOrchardModel.fittedOf(II)I -/
def P237 : List (Nat × List Instr) := [
  (0, [.iconst 0, .istore_n 3, .iconst 0, .istore 4]),
  (5, [.iload 4, .aload_n 0, .invokevirtual 166, .if_icmp .ge 31, .iload_n 3, .aload_n 0, .iload_n 1, .iload_n 2, .iload 4, .invokevirtual 214, .ifCond .eq 10, .iconst 1, .iload 4, .ishl, .goto 4]),
  (33, [.iconst 0, .ior, .istore_n 3, .iinc 4 1, .goto (-34)]),
  (34, [.ior, .istore_n 3, .iinc 4 1, .goto (-34)]),
  (42, [.iload_n 3, .ireturn])]
/-- ShoeOrchardModel.wearers(I)I -/
def P238 : List (Nat × List Instr) := [
  (0, [.aload_n 0, .iconst 0, .putfield 768, .aload_n 0, .iload_n 1, .invokevirtual 203, .ifCond .eq 20, .aload_n 0, .iconst 0, .iload_n 1, .invokevirtual 204, .ifCond .eq 11, .aload_n 0, .iload_n 1, .invokevirtual 239, .goto 4]),
  (30, [.iconst (-1), .ireturn]),
  (31, [.ireturn])]
/-- ShoeOrchardModel.wearersOf(I)I -/
def P239 : List (Nat × List Instr) := [
  (0, [.iconst 0, .istore_n 2, .iconst 0, .istore_n 3]),
  (4, [.iload_n 3, .aload_n 0, .invokevirtual 168, .if_icmp .ge 29, .iload_n 2, .aload_n 0, .iconst 0, .iload_n 3, .iload_n 1, .invokevirtual 214, .ifCond .eq 9, .iconst 1, .iload_n 3, .ishl, .goto 4]),
  (29, [.iconst 0, .ior, .istore_n 2, .iinc 3 1, .goto (-31)]),
  (30, [.ior, .istore_n 2, .iinc 3 1, .goto (-31)]),
  (38, [.iload_n 2, .ireturn])]
/-- ShoeOrchardModel.shoes(I)I -/
def P240 : List (Nat × List Instr) := [
  (0, [.aload_n 0, .iconst 0, .putfield 768, .aload_n 0, .iload_n 1, .iconst 0, .invokevirtual 241, .ireturn])]
/-- ShoeOrchardModel.dealtTo(IZ)I -/
def P241 : List (Nat × List Instr) := [
  (0, [.iload_n 1, .iconst (-1), .if_icmp .eq 14, .aload_n 0, .iload_n 1, .invokevirtual 212, .ifCond .ne 6, .bipush (-2), .ireturn]),
  (16, [.aload_n 0, .iconst (-1), .putfield 797, .aload_n 0, .iconst 0, .iconst 0, .iconst 0, .iload_n 2, .invokevirtual 242, .iload_n 1, .iconst (-1), .if_icmp .ne 10, .aload_n 0, .getfield 797, .goto 9]),
  (41, [.aload_n 0, .getfield 796, .iload_n 1, .iaload, .ireturn]),
  (47, [.ireturn])]
/-- ShoeOrchardModel.deals(IIIZ)V -/
def P242 : List (Nat × List Instr) := [
  (0, [.iload_n 1, .aload_n 0, .invokevirtual 168, .if_icmp .ne 47, .iload_n 3, .aload_n 0, .getfield 797, .if_icmp .le 38, .aload_n 0, .iload_n 3, .putfield 797, .iconst 0, .istore 5]),
  (24, [.iload 5, .bipush 6, .if_icmp .ge 23, .aload_n 0, .getfield 796, .iload 5, .aload_n 0, .getfield 795, .iload 5, .iaload, .iastore, .iinc 5 1, .goto (-24)]),
  (51, [.return_]),
  (52, [.iconst 0, .istore 5]),
  (55, [.iload 5, .aload_n 0, .invokevirtual 166, .if_icmp .ge 91, .aload_n 0, .getfield 792, .bipush 19, .iload_n 1, .iadd, .iaload, .ifCond .ge 79, .iload_n 2, .iload 5, .ishr, .iconst 1, .iand, .ifCond .ne 64, .aload_n 0, .iconst 0, .iload 5, .invokevirtual 210, .ifCond .ne 54, .aload_n 0, .iconst 0, .iload_n 1, .iload 5, .invokevirtual 214, .ifCond .eq 43, .aload_n 0, .getfield 795, .iload_n 1, .iload 5, .iastore, .aload_n 0, .iload_n 1, .iconst 1, .iadd, .iload_n 2, .iconst 1, .iload 5, .ishl, .ior, .iload_n 3, .iload 4, .ifCond .eq 12, .aload_n 0, .iload 5, .invokevirtual 223, .goto 4]),
  (139, [.iconst 1, .iadd, .iload 4, .invokevirtual 242, .iinc 5 1, .goto (-94)]),
  (140, [.iadd, .iload 4, .invokevirtual 242, .iinc 5 1, .goto (-94)]),
  (146, [.iinc 5 1, .goto (-94)]),
  (152, [.aload_n 0, .getfield 795, .iload_n 1, .iconst (-1), .iastore, .aload_n 0, .iload_n 1, .iconst 1, .iadd, .iload_n 2, .iload_n 3, .iload 4, .invokevirtual 242, .return_])]
/-- ShoeOrchardModel.roads(I)I -/
def P243 : List (Nat × List Instr) := [
  (0, [.aload_n 0, .iconst 0, .putfield 768, .aload_n 0, .iload_n 1, .iconst 1, .invokevirtual 241, .ireturn])]
/-- ShoeOrchardModel.order(I)I -/
def P244 : List (Nat × List Instr) := [
  (0, [.aload_n 0, .iconst 0, .putfield 768, .iconst 1, .aload_n 0, .invokevirtual 168, .ishl, .iconst 1, .isub, .aload_n 0, .iconst 0, .invokevirtual 245, .iconst (-1), .ixor, .iand, .istore_n 2, .aload_n 0, .iload_n 2, .invokestatic 246, .putfield 800, .iload_n 1, .iconst (-1), .aload_n 0, .getfield 800, .iconst 1, .isub, .invokestatic 201, .ifCond .ne 6, .bipush (-2), .ireturn]),
  (47, [.aload_n 0, .iconst (-1), .putfield 801, .aload_n 0, .iconst 0, .iload_n 2, .invokevirtual 247, .iload_n 1, .iconst (-1), .if_icmp .ne 10, .aload_n 0, .getfield 801, .goto 9]),
  (70, [.aload_n 0, .getfield 799, .iload_n 1, .iaload, .ireturn]),
  (76, [.ireturn])]
/-- ShoeOrchardModel.shodOf(I)I -/
def P245 : List (Nat × List Instr) := [
  (0, [.iconst 0, .istore_n 2, .iconst 0, .istore_n 3]),
  (4, [.iload_n 3, .aload_n 0, .invokevirtual 168, .if_icmp .ge 33, .iload_n 2, .aload_n 0, .getfield 792, .iload_n 1, .bipush 19, .iadd, .iload_n 3, .iadd, .iaload, .ifCond .lt 9, .iconst 1, .iload_n 3, .ishl, .goto 4]),
  (33, [.iconst 0, .ior, .istore_n 2, .iinc 3 1, .goto (-35)]),
  (34, [.ior, .istore_n 2, .iinc 3 1, .goto (-35)]),
  (42, [.iload_n 2, .ireturn])]
/-- ShoeOrchardModel.bits(I)I -/
def P246 : List (Nat × List Instr) := [
  (0, [.iconst 0, .istore_n 1, .iconst 0, .istore_n 2]),
  (4, [.iload_n 2, .bipush 30, .if_icmp .ge 17, .iload_n 1, .iload_n 0, .iload_n 2, .ishr, .iconst 1, .iand, .iadd, .istore_n 1, .iinc 2 1, .goto (-17)]),
  (24, [.iload_n 1, .ireturn])]
/-- ShoeOrchardModel.orders(II)V -/
def P247 : List (Nat × List Instr) := [
  (0, [.iload_n 2, .ifCond .ne 114, .aload_n 0, .iconst 0, .sipush 1260, .bipush 43, .invokevirtual 220, .iconst 0, .istore_n 3]),
  (16, [.iload_n 3, .iload_n 1, .if_icmp .ge 19, .aload_n 0, .aload_n 0, .getfield 798, .iload_n 3, .iaload, .invokevirtual 248, .iinc 3 1, .goto (-18)]),
  (37, [.aload_n 0, .sipush 1260, .invokevirtual 245, .invokestatic 246, .aload_n 0, .iconst 0, .invokevirtual 245, .invokestatic 246, .isub, .istore_n 3, .iconst 0, .istore 4]),
  (60, [.iload 4, .iload_n 1, .if_icmp .ge 31, .iload_n 3, .aload_n 0, .getfield 801, .if_icmp .le 23, .aload_n 0, .getfield 799, .iload 4, .aload_n 0, .getfield 798, .iload 4, .iaload, .iastore, .iinc 4 1, .goto (-31)]),
  (94, [.aload_n 0, .iload_n 3, .aload_n 0, .getfield 801, .if_icmp .le 7, .iload_n 3, .goto 7]),
  (107, [.aload_n 0, .getfield 801, .putfield 801, .return_]),
  (111, [.putfield 801, .return_]),
  (115, [.iconst 0, .istore_n 3]),
  (117, [.iload_n 3, .aload_n 0, .invokevirtual 168, .if_icmp .ge 39, .iload_n 2, .iload_n 3, .ishr, .iconst 1, .iand, .iconst 1, .if_icmp .ne 24, .aload_n 0, .getfield 798, .iload_n 1, .iload_n 3, .iastore, .aload_n 0, .iload_n 1, .iconst 1, .iadd, .iload_n 2, .iconst 1, .iload_n 3, .ishl, .iconst (-1), .ixor, .iand, .invokevirtual 247, .iinc 3 1, .goto (-41)]),
  (155, [.iinc 3 1, .goto (-41)]),
  (161, [.return_])]
/-- ShoeOrchardModel.goesOut(I)V -/
def P248 : List (Nat × List Instr) := [
  (0, [.iconst 0, .istore_n 2]),
  (2, [.iload_n 2, .aload_n 0, .invokevirtual 166, .if_icmp .ge 31, .aload_n 0, .sipush 1260, .iload_n 1, .iload_n 2, .invokevirtual 218, .ifCond .eq 13, .aload_n 0, .sipush 1260, .iload_n 1, .iload_n 2, .invokevirtual 221, .pop, .iinc 2 1, .goto (-33)]),
  (32, [.iinc 2 1, .goto (-33)]),
  (38, [.return_])]
/-- ShoeOrchardModel.mends(I)I -/
def P249 : List (Nat × List Instr) := [
  (0, [.aload_n 0, .iconst 0, .putfield 768, .aload_n 0, .iconst 0, .sipush 1260, .bipush 43, .invokevirtual 220, .iconst 0, .istore_n 2]),
  (17, [.iload_n 2, .iconst 2, .if_icmp .gt 31, .aload_n 0, .iload_n 1, .invokevirtual 212, .ifCond .eq 23, .aload_n 0, .sipush 1260, .iload_n 1, .iload_n 2, .invokevirtual 250, .ifCond .eq 5, .iload_n 2, .ireturn]),
  (44, [.iinc 2 1, .goto (-30)]),
  (50, [.iconst (-1), .ireturn])]
/-- ShoeOrchardModel.isMended(III)Z -/
def P250 : List (Nat × List Instr) := [
  (0, [.aload_n 0, .iload_n 1, .iload_n 2, .invokevirtual 237, .ifCond .eq 5, .iconst 1, .ireturn]),
  (11, [.iconst 0, .istore 4, .iconst 0, .istore 5]),
  (17, [.iload 5, .bipush 36, .if_icmp .ge 113, .iload_n 3, .ifCond .le 109, .iload 4, .ifCond .ne 104, .iload 5, .bipush 6, .idiv, .istore 6, .iload 5, .bipush 6, .irem, .istore 7, .aload_n 0, .iload 6, .invokevirtual 203, .ifCond .eq 75, .aload_n 0, .iload 7, .invokevirtual 203, .ifCond .eq 66, .aload_n 0, .getfield 792, .iload_n 1, .iconst 1, .iadd, .iload 6, .iadd, .iaload, .istore 8, .iload 6, .iload 7, .if_icmp .ne 13, .aload_n 0, .iload_n 1, .iload 6, .invokevirtual 230, .goto 12]),
  (95, [.aload_n 0, .iload_n 1, .iload 6, .iload 7, .invokevirtual 228, .aload_n 0, .iload_n 1, .iload_n 2, .iload_n 3, .iconst 1, .isub, .invokevirtual 250, .istore 4, .aload_n 0, .getfield 792, .iload_n 1, .iconst 1, .iadd, .iload 6, .iadd, .iload 8, .iastore, .iinc 5 1, .goto (-114)]),
  (104, [.aload_n 0, .iload_n 1, .iload_n 2, .iload_n 3, .iconst 1, .isub, .invokevirtual 250, .istore 4, .aload_n 0, .getfield 792, .iload_n 1, .iconst 1, .iadd, .iload 6, .iadd, .iload 8, .iastore, .iinc 5 1, .goto (-114)]),
  (128, [.iinc 5 1, .goto (-114)]),
  (134, [.iload 4, .ireturn])]
/-- ShoeOrchardModel.when(I)I -/
def P251 : List (Nat × List Instr) := [
  (0, [.aload_n 0, .iconst 0, .putfield 768, .aload_n 0, .iconst 0, .sipush 1260, .bipush 43, .invokevirtual 220, .iconst 0, .istore_n 2]),
  (17, [.iload_n 2, .bipush 40, .if_icmp .gt 44, .aload_n 0, .iload_n 1, .invokevirtual 212, .ifCond .eq 36, .aload_n 0, .sipush 1260, .iload_n 1, .invokevirtual 237, .ifCond .eq 5, .iload_n 2, .ireturn]),
  (44, [.aload_n 0, .sipush 1260, .aload_n 0, .sipush 1260, .invokevirtual 205, .invokevirtual 232, .iinc 2 1, .goto (-44)]),
  (64, [.iconst (-1), .ireturn])]
/-- ShoeOrchardModel.later(II)I -/
def P252 : List (Nat × List Instr) := [
  (0, [.aload_n 0, .iconst 0, .putfield 768, .aload_n 0, .iload_n 1, .invokevirtual 203, .ifCond .eq 13, .iload_n 2, .iconst 0, .bipush 40, .invokestatic 201, .ifCond .ne 5, .iconst (-1), .ireturn]),
  (23, [.iconst (-1), .ireturn]),
  (25, [.aload_n 0, .iconst 0, .sipush 1260, .bipush 43, .invokevirtual 220, .iconst 0, .istore_n 3]),
  (37, [.iload_n 3, .iload_n 2, .if_icmp .ge 23, .aload_n 0, .sipush 1260, .aload_n 0, .sipush 1260, .invokevirtual 205, .invokevirtual 232, .iinc 3 1, .goto (-22)]),
  (62, [.aload_n 0, .sipush 1260, .iload_n 1, .invokevirtual 204, .ifCond .eq 14, .aload_n 0, .sipush 1260, .iload_n 1, .invokevirtual 207, .goto 4]),
  (84, [.iconst (-1), .ireturn]),
  (85, [.ireturn])]
/-- ShoeOrchardModel.lack(I)I -/
def P253 : List (Nat × List Instr) := [
  (0, [.aload_n 0, .iconst 0, .putfield 768, .iconst (-1), .istore_n 2, .iconst 0, .istore_n 3]),
  (9, [.iload_n 3, .aload_n 0, .invokevirtual 166, .if_icmp .ge 57, .aload_n 0, .iload_n 1, .invokevirtual 212, .ifCond .eq 49, .aload_n 0, .iconst 0, .iload_n 1, .aload_n 0, .iconst 0, .iload_n 3, .invokevirtual 207, .invokevirtual 215, .istore 4, .aload_n 0, .iconst 0, .iload_n 3, .invokevirtual 204, .ifCond .eq 18, .iload_n 2, .ifCond .lt 9, .iload 4, .iload_n 2, .if_icmp .ge 8, .iload 4, .goto 4]),
  (58, [.iload 4, .goto 4]),
  (63, [.iload_n 2, .istore_n 2, .iinc 3 1, .goto (-59)]),
  (64, [.istore_n 2, .iinc 3 1, .goto (-59)]),
  (71, [.iload_n 2, .ireturn])]
/-- ShoeOrchardModel.feel(IZ)Z -/
def P254 : List (Nat × List Instr) := [
  (0, [.aload_n 0, .iconst 0, .putfield 768, .aload_n 0, .iload_n 1, .invokevirtual 203, .ifCond .eq 15, .aload_n 0, .getfield 792, .bipush 43, .iaload, .bipush 8, .if_icmp .ne 5, .iconst 0, .ireturn]),
  (25, [.iconst 0, .ireturn]),
  (27, [.bipush 44, .iconst 2, .aload_n 0, .getfield 792, .bipush 43, .iaload, .imul, .iadd, .istore_n 3, .aload_n 0, .getfield 792, .iload_n 3, .iload_n 1, .iastore, .aload_n 0, .getfield 792, .iload_n 3, .iconst 1, .iadd, .iload_n 2, .ifCond .eq 7, .iconst 1, .goto 4]),
  (62, [.iconst 0, .iastore, .aload_n 0, .getfield 792, .bipush 43, .dup2, .iaload, .iconst 1, .iadd, .iastore, .iconst 1, .ireturn]),
  (63, [.iastore, .aload_n 0, .getfield 792, .bipush 43, .dup2, .iaload, .iconst 1, .iadd, .iastore, .iconst 1, .ireturn])]
/-- ShoeOrchardModel.feet(I)I -/
def P255 : List (Nat × List Instr) := [
  (0, [.aload_n 0, .iconst 0, .putfield 768, .iload_n 1, .iconst 0, .iconst 2, .invokestatic 201, .ifCond .ne 5, .iconst (-1), .ireturn]),
  (16, [.iconst 0, .istore_n 2, .iconst (-1), .istore_n 3, .iconst (-1), .istore 4, .iconst 0, .istore 5]),
  (26, [.iload 5, .bipush 40, .if_icmp .gt 60, .aload_n 0, .iload 5, .invokevirtual 256, .istore 6, .iload_n 2, .iload 6, .ifCond .eq 7, .iconst 1, .goto 4]),
  (51, [.iconst 0, .iadd, .istore_n 2, .iload 6, .ifCond .eq 12, .iload_n 3, .ifCond .ge 8, .iload 5, .goto 4]),
  (52, [.iadd, .istore_n 2, .iload 6, .ifCond .eq 12, .iload_n 3, .ifCond .ge 8, .iload 5, .goto 4]),
  (68, [.iload_n 3, .istore_n 3, .iload 6, .ifCond .eq 8, .iload 5, .goto 5]),
  (69, [.istore_n 3, .iload 6, .ifCond .eq 8, .iload 5, .goto 5]),
  (80, [.iload 4, .istore 4, .iinc 5 1, .goto (-61)]),
  (82, [.istore 4, .iinc 5 1, .goto (-61)]),
  (90, [.iload_n 1, .ifCond .ne 7, .iload_n 2, .goto 14]),
  (98, [.iload_n 1, .iconst 1, .if_icmp .ne 7, .iload_n 3, .goto 5]),
  (107, [.iload 4, .ireturn]),
  (109, [.ireturn])]
/-- ShoeOrchardModel.isFelt(I)Z -/
def P256 : List (Nat × List Instr) := [
  (0, [.iconst 1, .istore_n 2, .iconst 0, .istore_n 3]),
  (4, [.iload_n 3, .aload_n 0, .getfield 792, .bipush 43, .iaload, .if_icmp .ge 75, .bipush 44, .iconst 2, .iload_n 3, .imul, .iadd, .istore 4, .iload_n 2, .ifCond .eq 55, .aload_n 0, .iconst 0, .aload_n 0, .getfield 792, .iload 4, .iaload, .invokevirtual 204, .ifCond .eq 36, .aload_n 0, .aload_n 0, .getfield 792, .iload 4, .iaload, .iload_n 1, .invokevirtual 257, .aload_n 0, .getfield 792, .iload 4, .iconst 1, .iadd, .iaload, .iconst 1, .if_icmp .ne 7, .iconst 1, .goto 4]),
  (71, [.iconst 0, .if_icmp .ne 7, .iconst 1, .goto 4]),
  (72, [.if_icmp .ne 7, .iconst 1, .goto 4]),
  (75, [.iconst 1, .goto 4]),
  (79, [.iconst 0, .istore_n 2, .iinc 3 1, .goto (-80)]),
  (80, [.istore_n 2, .iinc 3 1, .goto (-80)]),
  (87, [.iload_n 2, .ireturn])]
/-- ShoeOrchardModel.fitsFeet(II)Z -/
def P257 : List (Nat × List Instr) := [
  (0, [.aload_n 0, .iconst 0, .iload_n 1, .invokevirtual 207, .iload_n 2, .invokestatic 216, .aload_n 0, .getfield 778, .iconst 2, .iaload, .if_icmp .gt 7, .iconst 1, .goto 4]),
  (23, [.iconst 0, .ireturn]),
  (24, [.ireturn])]
/-- ShoeOrchardModel.ask()I -/
def P258 : List (Nat × List Instr) := [
  (0, [.aload_n 0, .iconst 0, .putfield 768, .iconst 0, .istore_n 1, .iconst 0, .istore_n 2]),
  (9, [.iload_n 2, .bipush 40, .if_icmp .gt 25, .iload_n 1, .aload_n 0, .iload_n 2, .invokevirtual 256, .ifCond .eq 7, .iconst 1, .goto 4]),
  (28, [.iconst 0, .iadd, .istore_n 1, .iinc 2 1, .goto (-25)]),
  (29, [.iadd, .istore_n 1, .iinc 2 1, .goto (-25)]),
  (37, [.iconst (-1), .istore_n 2, .iload_n 1, .istore_n 3, .iconst 0, .istore 4]),
  (44, [.iload 4, .aload_n 0, .invokevirtual 166, .if_icmp .ge 125, .iconst 0, .istore 5, .iconst 0, .istore 6]),
  (59, [.iload 6, .bipush 40, .if_icmp .gt 39, .iload 5, .aload_n 0, .iload 6, .invokevirtual 256, .ifCond .eq 18, .aload_n 0, .iload 4, .iload 6, .invokevirtual 257, .ifCond .eq 7, .iconst 1, .goto 4]),
  (92, [.iconst 0, .iadd, .istore 5, .iinc 6 1, .goto (-40)]),
  (93, [.iadd, .istore 5, .iinc 6 1, .goto (-40)]),
  (102, [.iload 5, .iload_n 1, .iload 5, .isub, .if_icmp .le 8, .iload 5, .goto 7]),
  (116, [.iload_n 1, .iload 5, .isub, .istore 6, .aload_n 0, .iconst 0, .iload 4, .invokevirtual 204, .ifCond .eq 13, .iload 6, .iload_n 3, .if_icmp .ge 7, .iconst 1, .goto 4]),
  (120, [.istore 6, .aload_n 0, .iconst 0, .iload 4, .invokevirtual 204, .ifCond .eq 13, .iload 6, .iload_n 3, .if_icmp .ge 7, .iconst 1, .goto 4]),
  (142, [.iconst 0, .istore 7, .iload 7, .ifCond .eq 8, .iload 4, .goto 4]),
  (143, [.istore 7, .iload 7, .ifCond .eq 8, .iload 4, .goto 4]),
  (155, [.iload_n 2, .istore_n 2, .iload 7, .ifCond .eq 8, .iload 6, .goto 4]),
  (156, [.istore_n 2, .iload 7, .ifCond .eq 8, .iload 6, .goto 4]),
  (167, [.iload_n 3, .istore_n 3, .iinc 4 1, .goto (-128)]),
  (168, [.istore_n 3, .iinc 4 1, .goto (-128)]),
  (175, [.iload_n 2, .ireturn])]
/-- ShoeOrchardModel.pairs()I -/
def P259 : List (Nat × List Instr) := [
  (0, [.aload_n 0, .iconst 0, .putfield 768, .iconst 0, .istore_n 1, .iconst 0, .istore_n 2]),
  (9, [.iload_n 2, .aload_n 0, .invokevirtual 168, .if_icmp .ge 51, .iload_n 2, .iconst 1, .iadd, .istore_n 3]),
  (21, [.iload_n 3, .aload_n 0, .invokevirtual 168, .if_icmp .ge 33, .iload_n 1, .aload_n 0, .iconst 0, .iload_n 2, .invokevirtual 237, .aload_n 0, .iconst 0, .iload_n 3, .invokevirtual 237, .iand, .ifCond .eq 7, .iconst 1, .goto 4]),
  (50, [.iconst 0, .iadd, .istore_n 1, .iinc 3 1, .goto (-35)]),
  (51, [.iadd, .istore_n 1, .iinc 3 1, .goto (-35)]),
  (59, [.iinc 2 1, .goto (-53)]),
  (65, [.iload_n 1, .ireturn])]
/-- ShoeOrchardModel.idle()I -/
def P260 : List (Nat × List Instr) := [
  (0, [.aload_n 0, .iconst 0, .putfield 768, .iconst 0, .istore_n 1, .iconst 0, .istore_n 2]),
  (9, [.iload_n 2, .aload_n 0, .invokevirtual 166, .if_icmp .ge 36, .iload_n 1, .aload_n 0, .iconst 0, .iload_n 2, .invokevirtual 204, .ifCond .eq 17, .aload_n 0, .iload_n 2, .invokevirtual 239, .ifCond .ne 9, .iconst 1, .iload_n 2, .ishl, .goto 4]),
  (41, [.iconst 0, .ior, .istore_n 1, .iinc 2 1, .goto (-38)]),
  (42, [.ior, .istore_n 1, .iinc 2 1, .goto (-38)]),
  (50, [.iload_n 1, .ireturn])]
/-- ShoeOrchardModel.sole()I -/
def P261 : List (Nat × List Instr) := [
  (0, [.aload_n 0, .iconst 0, .putfield 768, .iconst 0, .istore_n 1, .iconst 0, .istore_n 2]),
  (9, [.iload_n 2, .aload_n 0, .invokevirtual 168, .if_icmp .ge 32, .iload_n 1, .aload_n 0, .iconst 0, .iload_n 2, .invokevirtual 237, .invokestatic 246, .iconst 1, .if_icmp .ne 9, .iconst 1, .iload_n 2, .ishl, .goto 4]),
  (37, [.iconst 0, .ior, .istore_n 1, .iinc 2 1, .goto (-34)]),
  (38, [.ior, .istore_n 1, .iinc 2 1, .goto (-34)]),
  (46, [.iload_n 1, .ireturn])]
/-- ShoeOrchardModel.twins()I -/
def P262 : List (Nat × List Instr) := [
  (0, [.aload_n 0, .iconst 0, .putfield 768, .iconst 0, .istore_n 1, .iconst 0, .istore_n 2]),
  (9, [.iload_n 2, .aload_n 0, .invokevirtual 166, .if_icmp .ge 68, .iload_n 2, .iconst 1, .iadd, .istore_n 3]),
  (21, [.iload_n 3, .aload_n 0, .invokevirtual 166, .if_icmp .ge 50, .iload_n 1, .aload_n 0, .iconst 0, .iload_n 2, .invokevirtual 204, .ifCond .eq 31, .aload_n 0, .iconst 0, .iload_n 3, .invokevirtual 204, .ifCond .eq 22, .aload_n 0, .iconst 0, .iload_n 2, .invokevirtual 207, .aload_n 0, .iconst 0, .iload_n 3, .invokevirtual 207, .if_icmp .ne 7, .iconst 1, .goto 4]),
  (67, [.iconst 0, .iadd, .istore_n 1, .iinc 3 1, .goto (-52)]),
  (68, [.iadd, .istore_n 1, .iinc 3 1, .goto (-52)]),
  (76, [.iinc 2 1, .goto (-70)]),
  (82, [.iload_n 1, .ireturn])]
/-- ShoeOrchardModel.best()I -/
def P263 : List (Nat × List Instr) := [
  (0, [.aload_n 0, .iconst 0, .putfield 768, .iconst (-1), .istore_n 1, .iconst (-1), .istore_n 2, .iconst 0, .istore_n 3]),
  (11, [.iload_n 3, .aload_n 0, .invokevirtual 166, .if_icmp .ge 57, .aload_n 0, .iconst 0, .iload_n 3, .invokevirtual 204, .ifCond .eq 14, .aload_n 0, .iload_n 3, .invokevirtual 239, .invokestatic 246, .goto 4]),
  (39, [.iconst (-1), .istore 4, .iload 4, .iload_n 2, .if_icmp .le 7, .iload_n 3, .goto 4]),
  (40, [.istore 4, .iload 4, .iload_n 2, .if_icmp .le 7, .iload_n 3, .goto 4]),
  (52, [.iload_n 1, .istore_n 1, .iload 4, .iload_n 2, .if_icmp .le 8, .iload 4, .goto 4]),
  (53, [.istore_n 1, .iload 4, .iload_n 2, .if_icmp .le 8, .iload 4, .goto 4]),
  (65, [.iload_n 2, .istore_n 2, .iinc 3 1, .goto (-59)]),
  (66, [.istore_n 2, .iinc 3 1, .goto (-59)]),
  (73, [.iload_n 1, .ireturn])]
/-- ShoeOrchardModel.chance(III)I -/
def P264 : List (Nat × List Instr) := [
  (0, [.aload_n 0, .iconst 0, .putfield 768, .aload_n 0, .iload_n 1, .invokevirtual 212, .ifCond .eq 23, .iload_n 2, .iconst 1, .bipush 6, .invokestatic 201, .ifCond .eq 13, .iload_n 3, .iconst 0, .bipush 10, .invokestatic 201, .ifCond .ne 5, .iconst (-1), .ireturn]),
  (33, [.iconst (-1), .ireturn]),
  (35, [.lconst 1, .lstore 4, .lconst 0, .lstore 6, .iconst 0, .istore 8]),
  (44, [.iload 8, .iload_n 2, .if_icmp .ge 17, .lload 4, .jsr 10, .lmul, .lstore 4, .iinc 8 1, .goto (-17)]),
  (64, [.iconst 0, .istore 8]),
  (67, [.iload 8, .iconst 1, .iload_n 2, .ishl, .if_icmp .ge 114, .aload_n 0, .iconst 0, .sipush 1260, .bipush 43, .invokevirtual 220, .lconst 1, .lstore 9, .iconst 0, .istore 11]),
  (91, [.iload 11, .iload_n 2, .if_icmp .ge 64, .iload 8, .iload 11, .ishr, .iconst 1, .iand, .iconst 1, .if_icmp .ne 7, .iconst 1, .goto 4]),
  (112, [.iconst 0, .istore 12, .lload 9, .iload 12, .ifCond .eq 8, .iload_n 3, .i2l, .goto 8]),
  (113, [.istore 12, .lload 9, .iload 12, .ifCond .eq 8, .iload_n 3, .i2l, .goto 8]),
  (127, [.bipush 10, .iload_n 3, .isub, .i2l, .lmul, .lstore 9, .aload_n 0, .sipush 1260, .iload 12, .ifCond .eq 7, .iconst 3, .goto 4]),
  (132, [.lmul, .lstore 9, .aload_n 0, .sipush 1260, .iload 12, .ifCond .eq 7, .iconst 3, .goto 4]),
  (148, [.iconst 0, .invokevirtual 232, .iinc 11 1, .goto (-64)]),
  (149, [.invokevirtual 232, .iinc 11 1, .goto (-64)]),
  (158, [.lload 6, .aload_n 0, .sipush 1260, .iload_n 1, .invokevirtual 237, .ifCond .eq 8, .lload 9, .goto 4]),
  (176, [.lconst 0, .ladd, .lstore 6, .iinc 8 1, .goto (-116)]),
  (177, [.ladd, .lstore 6, .iinc 8 1, .goto (-116)]),
  (186, [.lload 6, .jsr 1000000, .lmul, .lload 4, .ldiv, .l2i, .ireturn])]
/-- ShoeOrchardModel.rests(IIII)I -/
def P265 : List (Nat × List Instr) := [
  (0, [.iload_n 1, .iconst 0, .bipush 9, .invokestatic 201, .ifCond .eq 33, .iload_n 2, .iconst 0, .bipush 9, .invokestatic 201, .ifCond .eq 23, .iload_n 3, .iconst 0, .bipush 9, .invokestatic 201, .ifCond .eq 13, .iload 4, .iconst (-1), .if_icmp .lt 7, .iconst 1, .goto 4]),
  (40, [.iconst 0, .istore 5, .iconst 0, .istore 6, .iconst (-1), .istore 7, .iconst 0, .istore 8]),
  (41, [.istore 5, .iconst 0, .istore 6, .iconst (-1), .istore 7, .iconst 0, .istore 8]),
  (52, [.iload 8, .iconst 4, .if_icmp .ge 119, .iload 5, .ifCond .eq 114, .iload 8, .iconst 2, .idiv, .istore 9, .iload 8, .iconst 2, .irem, .istore 10, .iconst 1, .iload 9, .isub, .iload 10, .iload_n 1, .iload_n 2, .iload_n 3, .invokestatic 266, .iload 9, .iload 10, .iload_n 1, .iload_n 2, .iload_n 3, .invokestatic 266, .if_icmp .gt 32, .iconst 1, .iload 10, .isub, .iload 9, .iload_n 1, .iload_n 2, .iload_n 3, .invokestatic 266, .iload 10, .iload 9, .iload_n 1, .iload_n 2, .iload_n 3, .invokestatic 266, .if_icmp .gt 7, .iconst 1, .goto 4]),
  (129, [.iconst 0, .istore 11, .iload 11, .ifCond .eq 15, .iload 6, .iload 4, .if_icmp .ne 8, .iload 8, .goto 5]),
  (130, [.istore 11, .iload 11, .ifCond .eq 15, .iload 6, .iload 4, .if_icmp .ne 8, .iload 8, .goto 5]),
  (149, [.iload 7, .istore 7, .iload 6, .iload 11, .ifCond .eq 7, .iconst 1, .goto 4]),
  (151, [.istore 7, .iload 6, .iload 11, .ifCond .eq 7, .iconst 1, .goto 4]),
  (164, [.iconst 0, .iadd, .istore 6, .iinc 8 1, .goto (-119)]),
  (165, [.iadd, .istore 6, .iinc 8 1, .goto (-119)]),
  (174, [.aload_n 0, .iload 5, .ifCond .eq 17, .iload 4, .ifCond .lt 8, .iload 7, .ifCond .lt 7, .iconst 0, .goto 4]),
  (190, [.iconst 0, .goto 4]),
  (194, [.iconst 1, .putfield 768, .aload_n 0, .getfield 768, .ifCond .le 7, .iconst 0, .goto 15]),
  (195, [.putfield 768, .aload_n 0, .getfield 768, .ifCond .le 7, .iconst 0, .goto 15]),
  (209, [.iload 4, .ifCond .ge 8, .iload 6, .goto 5]),
  (219, [.iload 7, .ireturn]),
  (221, [.ireturn])]
/-- ShoeOrchardModel.getsBy(IIIII)I -/
def P266 : List (Nat × List Instr) := [
  (0, [.iload_n 0, .iconst 1, .if_icmp .ne 17, .iload_n 1, .iconst 1, .if_icmp .ne 7, .iload_n 2, .goto 19]),
  (14, [.iload_n 3, .ineg, .goto 14]),
  (19, [.iload_n 1, .iconst 1, .if_icmp .ne 8, .iload 4, .goto 4]),
  (29, [.iconst 0, .ireturn]),
  (30, [.ireturn])]
/-- ShoeOrchardModel.ages(III)I -/
def P267 : List (Nat × List Instr) := [
  (0, [.aload_n 0, .iconst 0, .putfield 768, .iload_n 1, .iconst 0, .sipush 9999, .invokestatic 201, .ifCond .eq 22, .iload_n 2, .iconst 1, .bipush 99, .invokestatic 201, .ifCond .eq 12, .iload_n 3, .iconst 0, .iconst 2, .invokestatic 201, .ifCond .ne 5, .iconst (-1), .ireturn]),
  (35, [.iconst (-1), .ireturn]),
  (37, [.aload_n 0, .iconst 0, .sipush 1320, .bipush 43, .invokevirtual 220, .aload_n 0, .iload_n 1, .i2l, .putfield 802, .iconst 0, .istore 4, .iconst 0, .istore 5]),
  (59, [.iload 5, .iload_n 2, .if_icmp .ge 40, .aload_n 0, .invokevirtual 166, .ifCond .le 33, .aload_n 0, .invokevirtual 168, .ifCond .le 26, .iload 4, .aload_n 0, .invokevirtual 268, .ifCond .eq 7, .iconst 1, .goto 4]),
  (92, [.iconst 0, .iadd, .istore 4, .iinc 5 1, .goto (-40)]),
  (93, [.iadd, .istore 4, .iinc 5 1, .goto (-40)]),
  (102, [.iload_n 3, .ifCond .ne 8, .iload 4, .goto 32]),
  (111, [.iload_n 3, .iconst 1, .if_icmp .ne 14, .aload_n 0, .getfield 792, .sipush 1320, .iaload, .goto 16]),
  (127, [.aload_n 0, .sipush 1320, .invokevirtual 235, .aload_n 0, .iconst 0, .invokevirtual 235, .isub, .ireturn]),
  (140, [.ireturn])]
/-- ShoeOrchardModel.drawsDeeds()Z -/
def P268 : List (Nat × List Instr) := [
  (0, [.aload_n 0, .aload_n 0, .invokevirtual 168, .invokevirtual 269, .istore_n 1, .aload_n 0, .aload_n 0, .invokevirtual 166, .invokevirtual 269, .istore_n 2, .aload_n 0, .sipush 1320, .iload_n 1, .iload_n 2, .invokevirtual 218, .ifCond .eq 19, .aload_n 0, .sipush 1320, .iload_n 1, .iload_n 2, .invokevirtual 221, .ifCond .eq 7, .iconst 1, .goto 4]),
  (46, [.iconst 0, .istore_n 3, .aload_n 0, .bipush 6, .invokevirtual 269, .istore 4, .iload 4, .ifCond .ne 20, .aload_n 0, .sipush 1320, .aload_n 0, .sipush 1320, .invokevirtual 205, .invokevirtual 232, .goto 47]),
  (47, [.istore_n 3, .aload_n 0, .bipush 6, .invokevirtual 269, .istore 4, .iload 4, .ifCond .ne 20, .aload_n 0, .sipush 1320, .aload_n 0, .sipush 1320, .invokevirtual 205, .invokevirtual 232, .goto 47]),
  (78, [.iload 4, .iconst 1, .if_icmp .ne 41, .aload_n 0, .aload_n 0, .invokevirtual 166, .invokevirtual 269, .istore 5, .aload_n 0, .aload_n 0, .invokevirtual 166, .invokevirtual 269, .istore 6, .iload 5, .iload 6, .if_icmp .eq 14, .aload_n 0, .sipush 1320, .iload 5, .iload 6, .invokevirtual 228, .iload_n 3, .ireturn]),
  (122, [.iload_n 3, .ireturn])]
/-- ShoeOrchardModel.draw(I)I -/
def P269 : List (Nat × List Instr) := [
  (0, [.aload_n 0, .aload_n 0, .getfield 802, .jsr 1103515245, .lmul, .jsr 12345, .ladd, .jsr 2147483648, .lrem, .putfield 802, .aload_n 0, .getfield 802, .jsr 65536, .ldiv, .iload_n 1, .i2l, .lrem, .l2i, .ireturn])]
/-- ShoeOrchardModel.mark(IZ)Z -/
def P270 : List (Nat × List Instr) := [
  (0, [.aload_n 0, .iconst 0, .putfield 768, .iload_n 1, .iconst 0, .iconst 3, .invokestatic 201, .ifCond .eq 16, .iload_n 2, .ifCond .eq 14, .aload_n 0, .getfield 794, .iload_n 1, .baload, .ifCond .ne 5, .iconst 0, .ireturn]),
  (27, [.iconst 0, .ireturn]),
  (29, [.aload_n 0, .getfield 794, .iload_n 1, .iconst 1, .bastore, .aload_n 0, .iload_n 2, .ifCond .eq 12, .bipush 60, .iconst 1, .iload_n 1, .iadd, .imul, .goto 4]),
  (50, [.iconst 0, .iload_n 2, .ifCond .eq 7, .iconst 0, .goto 9]),
  (51, [.iload_n 2, .ifCond .eq 7, .iconst 0, .goto 9]),
  (59, [.bipush 60, .iconst 1, .iload_n 1, .iadd, .imul, .bipush 60, .invokevirtual 220, .aload_n 0, .iload_n 2, .ifCond .eq 7, .iconst 0, .goto 7]),
  (65, [.bipush 60, .invokevirtual 220, .aload_n 0, .iload_n 2, .ifCond .eq 7, .iconst 0, .goto 7]),
  (79, [.aload_n 0, .getfield 793, .putfield 793, .iconst 1, .ireturn]),
  (83, [.putfield 793, .iconst 1, .ireturn])]
/-- ShoeOrchardModel.count(I)I -/
def P271 : List (Nat × List Instr) := [
  (0, [.aload_n 0, .iconst 0, .putfield 768, .iload_n 1, .tableswitch 128 0 12 #[66, 66, 66, 66, 73, 80, 86, 91, 97, 103, 110, 118, 123]]),
  (72, [.aload_n 0, .getfield 778, .iload_n 1, .iaload, .ireturn]),
  (79, [.aload_n 0, .getfield 792, .iconst 0, .iaload, .ireturn]),
  (86, [.aload_n 0, .iconst 0, .invokevirtual 205, .ireturn]),
  (92, [.aload_n 0, .invokevirtual 272, .ireturn]),
  (97, [.aload_n 0, .iconst 0, .invokevirtual 245, .ireturn]),
  (103, [.aload_n 0, .iconst 0, .invokevirtual 235, .ireturn]),
  (109, [.aload_n 0, .getfield 789, .iconst 0, .iaload, .ireturn]),
  (116, [.aload_n 0, .getfield 792, .bipush 43, .iaload, .ireturn]),
  (124, [.aload_n 0, .getfield 793, .ireturn]),
  (129, [.aload_n 0, .getfield 770, .ireturn]),
  (134, [.iconst (-1), .ireturn])]
/-- ShoeOrchardModel.bearing()I -/
def P272 : List (Nat × List Instr) := [
  (0, [.iconst 0, .istore_n 1, .iconst 0, .istore_n 2]),
  (4, [.iload_n 2, .aload_n 0, .invokevirtual 166, .if_icmp .ge 28, .iload_n 1, .aload_n 0, .iconst 0, .iload_n 2, .invokevirtual 204, .ifCond .eq 9, .iconst 1, .iload_n 2, .ishl, .goto 4]),
  (28, [.iconst 0, .ior, .istore_n 1, .iinc 2 1, .goto (-30)]),
  (29, [.ior, .istore_n 1, .iinc 2 1, .goto (-30)]),
  (37, [.iload_n 1, .ireturn])]
/-- java/lang/String.indexOf(I)I -/
def P273 : List (Nat × List Instr) := [
  (0, [.aload_n 0, .iload_n 1, .iconst 0, .invokevirtual 274, .ireturn])]
/-- java/lang/String.indexOf(II)I -/
def P274 : List (Nat × List Instr) := [
  (0, [.aload_n 0, .invokevirtual 275, .ifCond .eq 19, .aload_n 0, .getfield 1000, .iload_n 1, .iload_n 2, .aload_n 0, .invokevirtual 276, .invokestatic 280, .goto 16]),
  (23, [.aload_n 0, .getfield 1000, .iload_n 1, .iload_n 2, .aload_n 0, .invokevirtual 276, .athrow]),
  (36, [.ireturn])]
/-- java/lang/String.isLatin1()Z -/
def P275 : List (Nat × List Instr) := [
  (0, [.getstatic 0, .ifCond .eq 14, .aload_n 0, .getfield 1001, .ifCond .ne 7, .iconst 1, .goto 4]),
  (17, [.iconst 0, .ireturn]),
  (18, [.ireturn])]
/-- java/lang/String.length()I -/
def P276 : List (Nat × List Instr) := [
  (0, [.aload_n 0, .getfield 1000, .arraylength, .aload_n 0, .invokevirtual 277, .ishr, .ireturn])]
/-- java/lang/String.coder()B -/
def P277 : List (Nat × List Instr) := [
  (0, [.getstatic 0, .ifCond .eq 10, .aload_n 0, .getfield 1001, .goto 4]),
  (13, [.iconst 1, .ireturn]),
  (14, [.ireturn])]
/-- java/lang/String.charAt(I)C -/
def P278 : List (Nat × List Instr) := [
  (0, [.aload_n 0, .invokevirtual 275, .ifCond .eq 12, .aload_n 0, .getfield 1000, .iload_n 1, .invokestatic 283, .ireturn]),
  (16, [.aload_n 0, .getfield 1000, .iload_n 1, .athrow])]
/-- java/lang/String.checkIndex(II)V -/
def P279 : List (Nat × List Instr) := [
  (0, [.iload_n 0, .iload_n 1, .getstatic 202, .invokestatic 289, .pop, .return_])]
/-- java/lang/StringLatin1.indexOf([BIII)I -/
def P280 : List (Nat × List Instr) := [
  (0, [.iload_n 1, .invokestatic 281, .ifCond .ne 5, .iconst (-1), .ireturn]),
  (9, [.iload_n 2, .iconst 0, .invokestatic 286, .istore_n 2, .iload_n 3, .aload_n 0, .arraylength, .invokestatic 287, .istore_n 3, .iload_n 2, .iload_n 3, .if_icmp .lt 5, .iconst (-1), .ireturn]),
  (29, [.aload_n 0, .iload_n 1, .iload_n 2, .iload_n 3, .invokestatic 282, .ireturn])]
/-- java/lang/StringLatin1.canEncode(I)Z -/
def P281 : List (Nat × List Instr) := [
  (0, [.iload_n 0, .ifCond .lt 14, .iload_n 0, .sipush 255, .if_icmp .gt 7, .iconst 1, .goto 4]),
  (15, [.iconst 0, .ireturn]),
  (16, [.ireturn])]
/-- java/lang/StringLatin1.indexOfChar([BIII)I -/
def P282 : List (Nat × List Instr) := [
  (0, [.iload_n 1, .i2b, .istore 4, .iload_n 2, .istore 5]),
  (7, [.iload 5, .iload_n 3, .if_icmp .ge 21, .aload_n 0, .iload 5, .baload, .iload 4, .if_icmp .ne 6, .iload 5, .ireturn]),
  (25, [.iinc 5 1, .goto (-21)]),
  (31, [.iconst (-1), .ireturn])]
/-- java/lang/StringLatin1.charAt([BI)C -/
def P283 : List (Nat × List Instr) := [
  (0, [.iload_n 1, .aload_n 0, .arraylength, .invokestatic 279, .aload_n 0, .iload_n 1, .baload, .sipush 255, .iand, .i2c, .ireturn])]
/-- java/util/Arrays.fill([II)V -/
def P284 : List (Nat × List Instr) := [
  (0, [.iconst 0, .istore_n 2, .aload_n 0, .arraylength, .istore_n 3]),
  (5, [.iload_n 2, .iload_n 3, .if_icmp .ge 13, .aload_n 0, .iload_n 2, .iload_n 1, .iastore, .iinc 2 1, .goto (-12)]),
  (20, [.return_])]
/-- java/lang/Integer.bitCount(I)I -/
def P285 : List (Nat × List Instr) := [
  (0, [.iload_n 0, .iload_n 0, .iconst 1, .iushr, .jsr_w 1431655765, .iand, .isub, .istore_n 0, .iload_n 0, .jsr_w 858993459, .iand, .iload_n 0, .iconst 2, .iushr, .jsr_w 858993459, .iand, .iadd, .istore_n 0, .iload_n 0, .iload_n 0, .iconst 4, .iushr, .iadd, .jsr_w 252645135, .iand, .istore_n 0, .iload_n 0, .iload_n 0, .bipush 8, .iushr, .iadd, .istore_n 0, .iload_n 0, .iload_n 0, .bipush 16, .iushr, .iadd, .istore_n 0, .iload_n 0, .bipush 63, .iand, .ireturn])]
/-- java/lang/Math.max(II)I -/
def P286 : List (Nat × List Instr) := [
  (0, [.iload_n 0, .iload_n 1, .if_icmp .lt 7, .iload_n 0, .goto 4]),
  (9, [.iload_n 1, .ireturn]),
  (10, [.ireturn])]
/-- java/lang/Math.min(II)I -/
def P287 : List (Nat × List Instr) := [
  (0, [.iload_n 0, .iload_n 1, .if_icmp .gt 7, .iload_n 0, .goto 4]),
  (9, [.iload_n 1, .ireturn]),
  (10, [.ireturn])]
/-- java/lang/Math.abs(I)I -/
def P288 : List (Nat × List Instr) := [
  (0, [.iload_n 0, .ifCond .ge 8, .iload_n 0, .ineg, .goto 4]),
  (9, [.iload_n 0, .ireturn]),
  (10, [.ireturn])]
/-- jdk/internal/util/Preconditions.checkIndex(IILjava/util/function/BiFunction;)I -/
def P289 : List (Nat × List Instr) := [
  (0, [.iload_n 0, .ifCond .lt 8, .iload_n 0, .iload_n 1, .if_icmp .lt 10, .aload_n 2, .iload_n 0, .iload_n 1, .athrow]),
  (9, [.aload_n 2, .iload_n 0, .iload_n 1, .athrow]),
  (16, [.iload_n 0, .ireturn])]
/-- ShoeOrchardLaw.law([I)Z -/
def P290 : List (Nat × List Instr) := [
  (0, [.new 11, .dup, .invokespecial 107, .astore_n 1, .new 12, .dup, .invokespecial 162, .astore_n 2, .iconst 1, .newarray .long, .astore_n 3, .iconst 0, .istore 4]),
  (23, [.iload 4, .aload_n 0, .arraylength, .bipush 7, .isub, .if_icmp .gt 1304, .aload_n 0, .iload 4, .iaload, .bipush 63, .iand, .tableswitch 1288 0 34 #[156, 303, 316, 329, 366, 403, 440, 477, 514, 551, 576, 589, 602, 627, 652, 677, 702, 727, 752, 777, 802, 839, 892, 917, 930, 943, 956, 969, 982, 995, 1020, 1069, 1161, 1210, 1263]]),
  (196, [.aload_n 1, .aload_n 0, .iload 4, .iconst 1, .iadd, .iaload, .i2l, .bipush 32, .lshl, .aload_n 0, .iload 4, .iconst 2, .iadd, .iaload, .i2l, .jsr 4294967295, .land, .lor, .aload_n 0, .iload 4, .iconst 3, .iadd, .iaload, .i2l, .bipush 32, .lshl, .aload_n 0, .iload 4, .iconst 4, .iadd, .iaload, .i2l, .jsr 4294967295, .land, .lor, .aload_n 0, .iload 4, .iconst 5, .iadd, .iaload, .i2l, .bipush 32, .lshl, .aload_n 0, .iload 4, .bipush 6, .iadd, .iaload, .i2l, .jsr 4294967295, .land, .lor, .invokevirtual 108, .aload_n 2, .aload_n 0, .iload 4, .iconst 1, .iadd, .iaload, .i2l, .bipush 32, .lshl, .aload_n 0, .iload 4, .iconst 2, .iadd, .iaload, .i2l, .jsr 4294967295, .land, .lor, .aload_n 0, .iload 4, .iconst 3, .iadd, .iaload, .i2l, .bipush 32, .lshl, .aload_n 0, .iload 4, .iconst 4, .iadd, .iaload, .i2l, .jsr 4294967295, .land, .lor, .aload_n 0, .iload 4, .iconst 5, .iadd, .iaload, .i2l, .bipush 32, .lshl, .aload_n 0, .iload 4, .bipush 6, .iadd, .iaload, .i2l, .jsr 4294967295, .land, .lor, .invokevirtual 160, .if_icmp .eq 990, .iconst 0, .ireturn]),
  (343, [.aload_n 1, .invokevirtual 110, .aload_n 2, .invokevirtual 170, .if_icmp .eq 977, .iconst 0, .ireturn]),
  (356, [.aload_n 1, .invokevirtual 111, .aload_n 2, .invokevirtual 199, .if_icmp .eq 964, .iconst 0, .ireturn]),
  (369, [.aload_n 1, .aload_n 0, .iload 4, .iconst 1, .iadd, .iaload, .aload_n 0, .iload 4, .iconst 2, .iadd, .iaload, .invokevirtual 112, .aload_n 2, .aload_n 0, .iload 4, .iconst 1, .iadd, .iaload, .aload_n 0, .iload 4, .iconst 2, .iadd, .iaload, .invokevirtual 202, .if_icmp .eq 927, .iconst 0, .ireturn]),
  (406, [.aload_n 1, .aload_n 0, .iload 4, .iconst 1, .iadd, .iaload, .aload_n 0, .iload 4, .iconst 2, .iadd, .iaload, .invokevirtual 113, .aload_n 2, .aload_n 0, .iload 4, .iconst 1, .iadd, .iaload, .aload_n 0, .iload 4, .iconst 2, .iadd, .iaload, .invokevirtual 211, .if_icmp .eq 890, .iconst 0, .ireturn]),
  (443, [.aload_n 1, .aload_n 0, .iload 4, .iconst 1, .iadd, .iaload, .aload_n 0, .iload 4, .iconst 2, .iadd, .iaload, .invokevirtual 114, .aload_n 2, .aload_n 0, .iload 4, .iconst 1, .iadd, .iaload, .aload_n 0, .iload 4, .iconst 2, .iadd, .iaload, .invokevirtual 213, .if_icmp .eq 853, .iconst 0, .ireturn]),
  (480, [.aload_n 1, .aload_n 0, .iload 4, .iconst 1, .iadd, .iaload, .aload_n 0, .iload 4, .iconst 2, .iadd, .iaload, .invokevirtual 115, .aload_n 2, .aload_n 0, .iload 4, .iconst 1, .iadd, .iaload, .aload_n 0, .iload 4, .iconst 2, .iadd, .iaload, .invokevirtual 217, .if_icmp .eq 816, .iconst 0, .ireturn]),
  (517, [.aload_n 1, .aload_n 0, .iload 4, .iconst 1, .iadd, .iaload, .aload_n 0, .iload 4, .iconst 2, .iadd, .iaload, .invokevirtual 116, .aload_n 2, .aload_n 0, .iload 4, .iconst 1, .iadd, .iaload, .aload_n 0, .iload 4, .iconst 2, .iadd, .iaload, .invokevirtual 224, .if_icmp .eq 779, .iconst 0, .ireturn]),
  (554, [.aload_n 1, .aload_n 0, .iload 4, .iconst 1, .iadd, .iaload, .aload_n 0, .iload 4, .iconst 2, .iadd, .iaload, .invokevirtual 117, .aload_n 2, .aload_n 0, .iload 4, .iconst 1, .iadd, .iaload, .aload_n 0, .iload 4, .iconst 2, .iadd, .iaload, .invokevirtual 227, .if_icmp .eq 742, .iconst 0, .ireturn]),
  (591, [.aload_n 1, .aload_n 0, .iload 4, .iconst 1, .iadd, .iaload, .invokevirtual 118, .aload_n 2, .aload_n 0, .iload 4, .iconst 1, .iadd, .iaload, .invokevirtual 229, .if_icmp .eq 717, .iconst 0, .ireturn]),
  (616, [.aload_n 1, .invokevirtual 119, .aload_n 2, .invokevirtual 231, .if_icmp .eq 704, .iconst 0, .ireturn]),
  (629, [.aload_n 1, .invokevirtual 120, .aload_n 2, .invokevirtual 233, .if_icmp .eq 691, .iconst 0, .ireturn]),
  (642, [.aload_n 1, .aload_n 0, .iload 4, .iconst 1, .iadd, .iaload, .invokevirtual 121, .aload_n 2, .aload_n 0, .iload 4, .iconst 1, .iadd, .iaload, .invokevirtual 234, .if_icmp .eq 666, .iconst 0, .ireturn]),
  (667, [.aload_n 1, .aload_n 0, .iload 4, .iconst 1, .iadd, .iaload, .invokevirtual 122, .aload_n 2, .aload_n 0, .iload 4, .iconst 1, .iadd, .iaload, .invokevirtual 236, .if_icmp .eq 641, .iconst 0, .ireturn]),
  (692, [.aload_n 1, .aload_n 0, .iload 4, .iconst 1, .iadd, .iaload, .invokevirtual 125, .aload_n 2, .aload_n 0, .iload 4, .iconst 1, .iadd, .iaload, .invokevirtual 238, .if_icmp .eq 616, .iconst 0, .ireturn]),
  (717, [.aload_n 1, .aload_n 0, .iload 4, .iconst 1, .iadd, .iaload, .invokevirtual 127, .aload_n 2, .aload_n 0, .iload 4, .iconst 1, .iadd, .iaload, .invokevirtual 240, .if_icmp .eq 591, .iconst 0, .ireturn]),
  (742, [.aload_n 1, .aload_n 0, .iload 4, .iconst 1, .iadd, .iaload, .invokevirtual 130, .aload_n 2, .aload_n 0, .iload 4, .iconst 1, .iadd, .iaload, .invokevirtual 243, .if_icmp .eq 566, .iconst 0, .ireturn]),
  (767, [.aload_n 1, .aload_n 0, .iload 4, .iconst 1, .iadd, .iaload, .invokevirtual 131, .aload_n 2, .aload_n 0, .iload 4, .iconst 1, .iadd, .iaload, .invokevirtual 244, .if_icmp .eq 541, .iconst 0, .ireturn]),
  (792, [.aload_n 1, .aload_n 0, .iload 4, .iconst 1, .iadd, .iaload, .invokevirtual 132, .aload_n 2, .aload_n 0, .iload 4, .iconst 1, .iadd, .iaload, .invokevirtual 249, .if_icmp .eq 516, .iconst 0, .ireturn]),
  (817, [.aload_n 1, .aload_n 0, .iload 4, .iconst 1, .iadd, .iaload, .invokevirtual 137, .aload_n 2, .aload_n 0, .iload 4, .iconst 1, .iadd, .iaload, .invokevirtual 251, .if_icmp .eq 491, .iconst 0, .ireturn]),
  (842, [.aload_n 1, .aload_n 0, .iload 4, .iconst 1, .iadd, .iaload, .aload_n 0, .iload 4, .iconst 2, .iadd, .iaload, .invokevirtual 138, .aload_n 2, .aload_n 0, .iload 4, .iconst 1, .iadd, .iaload, .aload_n 0, .iload 4, .iconst 2, .iadd, .iaload, .invokevirtual 252, .if_icmp .eq 454, .iconst 0, .ireturn]),
  (879, [.aload_n 1, .aload_n 0, .iload 4, .iconst 1, .iadd, .iaload, .aload_n 0, .iload 4, .iconst 2, .iadd, .iaload, .ifCond .eq 7, .iconst 1, .goto 4]),
  (899, [.iconst 0, .invokevirtual 139, .aload_n 2, .aload_n 0, .iload 4, .iconst 1, .iadd, .iaload, .aload_n 0, .iload 4, .iconst 2, .iadd, .iaload, .ifCond .eq 7, .iconst 1, .goto 4]),
  (900, [.invokevirtual 139, .aload_n 2, .aload_n 0, .iload 4, .iconst 1, .iadd, .iaload, .aload_n 0, .iload 4, .iconst 2, .iadd, .iaload, .ifCond .eq 7, .iconst 1, .goto 4]),
  (923, [.iconst 0, .invokevirtual 254, .if_icmp .eq 401, .iconst 0, .ireturn]),
  (924, [.invokevirtual 254, .if_icmp .eq 401, .iconst 0, .ireturn]),
  (932, [.aload_n 1, .aload_n 0, .iload 4, .iconst 1, .iadd, .iaload, .invokevirtual 140, .aload_n 2, .aload_n 0, .iload 4, .iconst 1, .iadd, .iaload, .invokevirtual 255, .if_icmp .eq 376, .iconst 0, .ireturn]),
  (957, [.aload_n 1, .invokevirtual 141, .aload_n 2, .invokevirtual 258, .if_icmp .eq 363, .iconst 0, .ireturn]),
  (970, [.aload_n 1, .invokevirtual 143, .aload_n 2, .invokevirtual 259, .if_icmp .eq 350, .iconst 0, .ireturn]),
  (983, [.aload_n 1, .invokevirtual 144, .aload_n 2, .invokevirtual 260, .if_icmp .eq 337, .iconst 0, .ireturn]),
  (996, [.aload_n 1, .invokevirtual 145, .aload_n 2, .invokevirtual 261, .if_icmp .eq 324, .iconst 0, .ireturn]),
  (1009, [.aload_n 1, .invokevirtual 146, .aload_n 2, .invokevirtual 262, .if_icmp .eq 311, .iconst 0, .ireturn]),
  (1022, [.aload_n 1, .invokevirtual 147, .aload_n 2, .invokevirtual 263, .if_icmp .eq 298, .iconst 0, .ireturn]),
  (1035, [.aload_n 1, .aload_n 0, .iload 4, .iconst 1, .iadd, .iaload, .invokevirtual 148, .aload_n 2, .aload_n 0, .iload 4, .iconst 1, .iadd, .iaload, .invokevirtual 253, .if_icmp .eq 273, .iconst 0, .ireturn]),
  (1060, [.aload_n 1, .aload_n 0, .iload 4, .iconst 1, .iadd, .iaload, .aload_n 0, .iload 4, .iconst 2, .iadd, .iaload, .aload_n 0, .iload 4, .iconst 3, .iadd, .iaload, .invokevirtual 149, .aload_n 2, .aload_n 0, .iload 4, .iconst 1, .iadd, .iaload, .aload_n 0, .iload 4, .iconst 2, .iadd, .iaload, .aload_n 0, .iload 4, .iconst 3, .iadd, .iaload, .invokevirtual 264, .if_icmp .eq 224, .iconst 0, .ireturn]),
  (1109, [.aload_n 1, .aload_n 0, .iload 4, .iconst 1, .iadd, .iaload, .aload_n 0, .iload 4, .iconst 2, .iadd, .iaload, .aload_n 0, .iload 4, .iconst 3, .iadd, .iaload, .aload_n 0, .iload 4, .iconst 4, .iadd, .iaload, .aload_n 3, .invokestatic 291, .istore 5, .aload_n 2, .aload_n 0, .iload 4, .iconst 1, .iadd, .iaload, .aload_n 0, .iload 4, .iconst 2, .iadd, .iaload, .aload_n 0, .iload 4, .iconst 3, .iadd, .iaload, .aload_n 0, .iload 4, .iconst 4, .iadd, .iaload, .invokevirtual 265, .istore 6, .aload_n 2, .invokevirtual 159, .iload 5, .if_icmp .eq 5, .iconst 0, .ireturn]),
  (1181, [.iload 5, .ifCond .ne 15, .aload_n 3, .iconst 0, .laload, .iload 6, .i2l, .lcmp, .ifCond .eq 5, .iconst 0, .ireturn]),
  (1198, [.goto 130]),
  (1201, [.aload_n 1, .aload_n 0, .iload 4, .iconst 1, .iadd, .iaload, .aload_n 0, .iload 4, .iconst 2, .iadd, .iaload, .aload_n 0, .iload 4, .iconst 3, .iadd, .iaload, .invokevirtual 151, .aload_n 2, .aload_n 0, .iload 4, .iconst 1, .iadd, .iaload, .aload_n 0, .iload 4, .iconst 2, .iadd, .iaload, .aload_n 0, .iload 4, .iconst 3, .iadd, .iaload, .invokevirtual 267, .if_icmp .eq 83, .iconst 0, .ireturn]),
  (1250, [.aload_n 1, .aload_n 0, .iload 4, .iconst 1, .iadd, .iaload, .aload_n 0, .iload 4, .iconst 2, .iadd, .iaload, .ifCond .eq 7, .iconst 1, .goto 4]),
  (1270, [.iconst 0, .invokevirtual 154, .aload_n 2, .aload_n 0, .iload 4, .iconst 1, .iadd, .iaload, .aload_n 0, .iload 4, .iconst 2, .iadd, .iaload, .ifCond .eq 7, .iconst 1, .goto 4]),
  (1271, [.invokevirtual 154, .aload_n 2, .aload_n 0, .iload 4, .iconst 1, .iadd, .iaload, .aload_n 0, .iload 4, .iconst 2, .iadd, .iaload, .ifCond .eq 7, .iconst 1, .goto 4]),
  (1294, [.iconst 0, .invokevirtual 270, .if_icmp .eq 30, .iconst 0, .ireturn]),
  (1295, [.invokevirtual 270, .if_icmp .eq 30, .iconst 0, .ireturn]),
  (1303, [.aload_n 1, .aload_n 0, .iload 4, .iconst 1, .iadd, .iaload, .invokevirtual 155, .aload_n 2, .aload_n 0, .iload 4, .iconst 1, .iadd, .iaload, .invokevirtual 271, .if_icmp .eq 5, .iconst 0, .ireturn]),
  (1328, [.iinc 4 7, .goto (-1308)]),
  (1334, [.iconst 1, .ireturn])]
end
section
/-- how long an instruction is, jumps, calls and returns too -/
def ln (i : Instr) : Nat := match i with
  | .goto _ => 3 | .ifCond _ _ => 3 | .if_icmp _ _ => 3 | .invokestatic _ => 3 | .invokespecial _ => 3 | .invokevirtual _ => 3
  | i => iln i
def FLs : List (Nat × Nat × Nat) := FL.map Prod.fst
def MLs : List (Nat × Nat × Nat) := ML.map Prod.fst
def MLNs : List (Nat × Nat × Nat) := MLN.map Prod.fst
def CKs : List (Nat × Nat × Nat) := CK.map Prod.fst
def LKs : List (Nat × Nat × Int) := LK.map Prod.fst
def IKs : List (Nat × Nat × Int) := IK.map Prod.fst
def SKs : List (Nat × Nat × Nat) := SK.map Prod.fst
def OBs : List (Nat × Nat) := OB.map Prod.fst
def ACs : List (Nat × Nat) := AC.map Prod.fst
def GSs : List (Nat × Nat × Nat) := GS.map Prod.fst
def GNs : List (Nat × Nat × Nat) := GN.map Prod.fst
def SOs : List Nat := SO.map Prod.fst
def NOs : List Nat := NO.map Prod.fst
def EOs : List Nat := EO.map Prod.fst
/-- the small machine's instruction i stands for the machine's raw one, in class o, in a constructor or not -/
def ck (o : Nat) (ini : Bool) (i raw : Instr) : Bool := match i with
  | .getfield n => (match raw with | .getfield x => FLs.contains (o, x, n) && (n == 1000 || n == 1001 || (decide (n / 64 < 13) && decide (n % 64 < (ftT (n / 64)).length))) | _ => false)
  | .putfield n => (match raw with | .putfield x => FLs.contains (o, x, n) && (decide (n / 64 < 13) && decide (n % 64 < (ftT (n / 64)).length)) && (!(cT (n / 64) (n % 64)).2.2.2 || (ini && decide ((cT (n / 64) (n % 64)).1 = on o))) | _ => false)
  | .getstatic n => (match raw with | .getstatic x => GSs.contains (o, x, n) || GNs.contains (o, x, n) | _ => false)
  | .new n => (match raw with | .new x => CKs.contains (o, x, n) && decide (n < 13) | _ => false)
  | .anewarray n => (match raw with | .anewarray x => (n == 17 && CKs.contains (o, x, 0)) || (n == 18 && CKs.contains (o, x, 9)) | _ => false)
  | .jsr v => (match raw with | .ldc2_w x => LKs.contains (o, x, v) | _ => false)
  | .goto_w v => (match raw with | .ldc x => IKs.contains (o, x, v) | _ => false)
  | .jsr_w v => (match raw with | .ldc_w x => IKs.contains (o, x, v) | _ => false)
  | .ret n => (match raw with | .ldc x => SKs.contains (o, x, n) | _ => false)
  | .invokestatic j => (match raw with | .invokestatic x => if j = 900 ∨ j = 901 then ACs.contains (o, x) else MLs.contains (o, x, j) && (SOs.contains j || j == 291) | _ => false)
  | .invokespecial j => (match raw with | .invokespecial x => if j = 900 then OBs.contains (o, x) else (MLs.contains (o, x, j) || MLNs.contains (o, x, j)) && NOs.contains j && decide ((yy j).name = "<init>") | _ => false)
  | .invokevirtual j => (match raw with | .invokevirtual x => MLs.contains (o, x, j) && NOs.contains j && EOs.contains j | _ => false)
  | .athrow => true
  | i => decide (raw = i)
def ckB (o : Nat) (ini : Bool) (cc : ByteArray) : List Instr → Nat → Bool
  | [], _ => true
  | i :: t, pc => (match i with | .athrow => true | _ => match decode cc pc with
      | .ok (raw, n) => ck o ini i raw && (match i with | .tableswitch _ _ _ _ => true | _ => n == ln i)
      | .error _ => false) && ckB o ini cc t (pc + ln i)
def ckP (o : Nat) (ini : Bool) (cc : ByteArray) (bs : List (Nat × List Instr)) : Bool := bs.all (fun q => ckB o ini cc q.2 q.1)
end
section
theorem K0 : ckP 0 true prog_2_method_1_code P0 = true := by decide +kernel
theorem K1 : ckP 0 false prog_2_method_2_code P1 = true := by decide +kernel
theorem K2 : ckP 0 false prog_2_method_4_code P2 = true := by decide +kernel
theorem K3 : ckP 0 false prog_2_method_5_code P3 = true := by decide +kernel
theorem K4 : ckP 0 false prog_2_method_3_code P4 = true := by decide +kernel
theorem K5 : ckP 1 true prog_3_method_1_code P5 = true := by decide +kernel
theorem K6 : ckP 1 false prog_3_method_2_code P6 = true := by decide +kernel
theorem K7 : ckP 1 false prog_3_method_3_code P7 = true := by decide +kernel
theorem K8 : ckP 1 false prog_3_method_4_code P8 = true := by decide +kernel
theorem K9 : ckP 1 false prog_3_method_5_code P9 = true := by decide +kernel
theorem K10 : ckP 1 false prog_3_method_7_code P10 = true := by decide +kernel
theorem K11 : ckP 1 false prog_3_method_6_code P11 = true := by decide +kernel
theorem K12 : ckP 2 true prog_4_method_1_code P12 = true := by decide +kernel
theorem K13 : ckP 2 false prog_4_method_2_code P13 = true := by decide +kernel
theorem K14 : ckP 2 false prog_4_method_4_code P14 = true := by decide +kernel
theorem K15 : ckP 2 false prog_4_method_3_code P15 = true := by decide +kernel
theorem K16 : ckP 2 false prog_4_method_5_code P16 = true := by decide +kernel
theorem K17 : ckP 3 true prog_5_method_1_code P17 = true := by decide +kernel
theorem K18 : ckP 3 false prog_5_method_2_code P18 = true := by decide +kernel
theorem K19 : ckP 3 false prog_5_method_3_code P19 = true := by decide +kernel
theorem K20 : ckP 3 false prog_5_method_4_code P20 = true := by decide +kernel
theorem K21 : ckP 3 false prog_5_method_6_code P21 = true := by decide +kernel
theorem K22 : ckP 3 false prog_5_method_5_code P22 = true := by decide +kernel
theorem K23 : ckP 4 true prog_6_method_1_code P23 = true := by decide +kernel
theorem K24 : ckP 4 false prog_6_method_2_code P24 = true := by decide +kernel
theorem K25 : ckP 4 false prog_6_method_3_code P25 = true := by decide +kernel
theorem K26 : ckP 4 false prog_6_method_4_code P26 = true := by decide +kernel
theorem K27 : ckP 5 true prog_7_method_1_code P27 = true := by decide +kernel
theorem K28 : ckP 5 false prog_7_method_2_code P28 = true := by decide +kernel
theorem K29 : ckP 5 false prog_7_method_3_code P29 = true := by decide +kernel
theorem K30 : ckP 5 false prog_7_method_5_code P30 = true := by decide +kernel
theorem K31 : ckP 5 false prog_7_method_7_code P31 = true := by decide +kernel
theorem K32 : ckP 5 false prog_7_method_6_code P32 = true := by decide +kernel
theorem K33 : ckP 5 false prog_7_method_4_code P33 = true := by decide +kernel
theorem K34 : ckP 5 false prog_7_method_8_code P34 = true := by decide +kernel
theorem K35 : ckP 5 false prog_7_method_9_code P35 = true := by decide +kernel
theorem K36 : ckP 5 false prog_7_method_10_code P36 = true := by decide +kernel
theorem K37 : ckP 5 false prog_7_method_11_code P37 = true := by decide +kernel
theorem K38 : ckP 5 false prog_7_method_12_code P38 = true := by decide +kernel
theorem K39 : ckP 5 false prog_7_method_13_code P39 = true := by decide +kernel
theorem K40 : ckP 5 false prog_7_method_14_code P40 = true := by decide +kernel
theorem K41 : ckP 5 false prog_7_method_15_code P41 = true := by decide +kernel
theorem K42 : ckP 6 true prog_8_method_1_code P42 = true := by decide +kernel
theorem K43 : ckP 6 false prog_8_method_2_code P43 = true := by decide +kernel
theorem K44 : ckP 6 false prog_8_method_3_code P44 = true := by decide +kernel
theorem K45 : ckP 6 false prog_8_method_4_code P45 = true := by decide +kernel
theorem K46 : ckP 6 false prog_8_method_5_code P46 = true := by decide +kernel
theorem K47 : ckP 6 false prog_8_method_7_code P47 = true := by decide +kernel
theorem K48 : ckP 6 false prog_8_method_6_code P48 = true := by decide +kernel
theorem K49 : ckP 7 true prog_9_method_1_code P49 = true := by decide +kernel
theorem K50 : ckP 7 false prog_9_method_2_code P50 = true := by decide +kernel
theorem K51 : ckP 7 false prog_9_method_6_code P51 = true := by decide +kernel
theorem K52 : ckP 7 false prog_9_method_7_code P52 = true := by decide +kernel
theorem K53 : ckP 7 false prog_9_method_3_code P53 = true := by decide +kernel
theorem K54 : ckP 7 false prog_9_method_4_code P54 = true := by decide +kernel
theorem K55 : ckP 7 false prog_9_method_8_code P55 = true := by decide +kernel
theorem K56 : ckP 7 false prog_9_method_9_code P56 = true := by decide +kernel
theorem K57 : ckP 7 false prog_9_method_11_code P57 = true := by decide +kernel
theorem K58 : ckP 7 false prog_9_method_5_code P58 = true := by decide +kernel
theorem K59 : ckP 7 false prog_9_method_12_code P59 = true := by decide +kernel
theorem K60 : ckP 7 false prog_9_method_10_code P60 = true := by decide +kernel
theorem K61 : ckP 8 true prog_10_method_1_code P61 = true := by decide +kernel
theorem K62 : ckP 8 false prog_10_method_2_code P62 = true := by decide +kernel
theorem K63 : ckP 8 false prog_10_method_3_code P63 = true := by decide +kernel
theorem K64 : ckP 8 false prog_10_method_4_code P64 = true := by decide +kernel
theorem K65 : ckP 8 false prog_10_method_5_code P65 = true := by decide +kernel
theorem K66 : ckP 8 false prog_10_method_6_code P66 = true := by decide +kernel
theorem K67 : ckP 9 true prog_11_method_1_code P67 = true := by decide +kernel
theorem K68 : ckP 9 false prog_11_method_2_code P68 = true := by decide +kernel
theorem K69 : ckP 9 false prog_11_method_3_code P69 = true := by decide +kernel
theorem K70 : ckP 9 false prog_11_method_7_code P70 = true := by decide +kernel
theorem K71 : ckP 9 false prog_11_method_5_code P71 = true := by decide +kernel
theorem K72 : ckP 9 false prog_11_method_9_code P72 = true := by decide +kernel
theorem K73 : ckP 9 false prog_11_method_8_code P73 = true := by decide +kernel
theorem K74 : ckP 9 false prog_11_method_12_code P74 = true := by decide +kernel
theorem K75 : ckP 9 false prog_11_method_4_code P75 = true := by decide +kernel
theorem K76 : ckP 9 false prog_11_method_13_code P76 = true := by decide +kernel
theorem K77 : ckP 9 false prog_11_method_14_code P77 = true := by decide +kernel
theorem K78 : ckP 9 false prog_11_method_15_code P78 = true := by decide +kernel
theorem K79 : ckP 9 false prog_11_method_16_code P79 = true := by decide +kernel
theorem K80 : ckP 9 false prog_11_method_17_code P80 = true := by decide +kernel
theorem K81 : ckP 9 false prog_11_method_18_code P81 = true := by decide +kernel
theorem K82 : ckP 9 false prog_11_method_19_code P82 = true := by decide +kernel
theorem K83 : ckP 9 false prog_11_method_20_code P83 = true := by decide +kernel
theorem K84 : ckP 9 false prog_11_method_11_code P84 = true := by decide +kernel
theorem K85 : ckP 9 false prog_11_method_6_code P85 = true := by decide +kernel
theorem K86 : ckP 9 false prog_11_method_10_code P86 = true := by decide +kernel
theorem K87 : ckP 10 true prog_12_method_1_code P87 = true := by decide +kernel
theorem K88 : ckP 10 false prog_12_method_2_code P88 = true := by decide +kernel
theorem K89 : ckP 10 false prog_12_method_4_code P89 = true := by decide +kernel
theorem K90 : ckP 10 false prog_12_method_5_code P90 = true := by decide +kernel
theorem K91 : ckP 10 false prog_12_method_8_code P91 = true := by decide +kernel
theorem K92 : ckP 10 false prog_12_method_9_code P92 = true := by decide +kernel
theorem K93 : ckP 10 false prog_12_method_6_code P93 = true := by decide +kernel
theorem K94 : ckP 10 false prog_12_method_10_code P94 = true := by decide +kernel
theorem K95 : ckP 10 false prog_12_method_7_code P95 = true := by decide +kernel
theorem K96 : ckP 10 false prog_12_method_14_code P96 = true := by decide +kernel
theorem K97 : ckP 10 false prog_12_method_15_code P97 = true := by decide +kernel
theorem K98 : ckP 10 false prog_12_method_16_code P98 = true := by decide +kernel
theorem K99 : ckP 10 false prog_12_method_13_code P99 = true := by decide +kernel
theorem K100 : ckP 10 false prog_12_method_19_code P100 = true := by decide +kernel
theorem K101 : ckP 10 false prog_12_method_18_code P101 = true := by decide +kernel
theorem K102 : ckP 10 false prog_12_method_12_code P102 = true := by decide +kernel
theorem K103 : ckP 10 false prog_12_method_20_code P103 = true := by decide +kernel
theorem K104 : ckP 10 false prog_12_method_11_code P104 = true := by decide +kernel
theorem K105 : ckP 10 false prog_12_method_17_code P105 = true := by decide +kernel
theorem K106 : ckP 10 false prog_12_method_3_code P106 = true := by decide +kernel
theorem K273 : ckP 14 false prog_23_method_79_code P273 = true := by decide +kernel
theorem K274 : ckP 14 false prog_23_method_80_code P274 = true := by decide +kernel
theorem K275 : ckP 14 false prog_23_method_154_code P275 = true := by decide +kernel
theorem K276 : ckP 14 false prog_23_method_54_code P276 = true := by decide +kernel
theorem K277 : ckP 14 false prog_23_method_152_code P277 = true := by decide +kernel
theorem K278 : ckP 14 false prog_23_method_56_code P278 = true := by decide +kernel
theorem K279 : ckP 14 false prog_23_method_155_code P279 = true := by decide +kernel
theorem K280 : ckP 15 false prog_24_method_22_code P280 = true := by decide +kernel
theorem K281 : ckP 15 false prog_24_method_4_code P281 = true := by decide +kernel
theorem K282 : ckP 15 false prog_24_method_23_code P282 = true := by decide +kernel
theorem K283 : ckP 15 false prog_24_method_2_code P283 = true := by decide +kernel
theorem K284 : ckP 16 false prog_30_method_103_code P284 = true := by decide +kernel
theorem K285 : ckP 17 false prog_20_method_49_code P285 = true := by decide +kernel
theorem K286 : ckP 18 false prog_21_method_65_code P286 = true := by decide +kernel
theorem K287 : ckP 18 false prog_21_method_69_code P287 = true := by decide +kernel
theorem K288 : ckP 18 false prog_21_method_59_code P288 = true := by decide +kernel
theorem K289 : ckP 19 false prog_32_method_11_code P289 = true := by decide +kernel
end
section
theorem K107 : ckP 11 true prog_1_method_1_code P107 = true := by decide +kernel
theorem K108 : ckP 11 false prog_1_method_2_code P108 = true := by decide +kernel
theorem K109 : ckP 11 false prog_1_method_37_code P109 = true := by decide +kernel
theorem K110 : ckP 11 false prog_1_method_3_code P110 = true := by decide +kernel
theorem K111 : ckP 11 false prog_1_method_4_code P111 = true := by decide +kernel
theorem K112 : ckP 11 false prog_1_method_5_code P112 = true := by decide +kernel
theorem K113 : ckP 11 false prog_1_method_6_code P113 = true := by decide +kernel
theorem K114 : ckP 11 false prog_1_method_7_code P114 = true := by decide +kernel
theorem K115 : ckP 11 false prog_1_method_8_code P115 = true := by decide +kernel
theorem K116 : ckP 11 false prog_1_method_9_code P116 = true := by decide +kernel
theorem K117 : ckP 11 false prog_1_method_10_code P117 = true := by decide +kernel
theorem K118 : ckP 11 false prog_1_method_11_code P118 = true := by decide +kernel
theorem K119 : ckP 11 false prog_1_method_12_code P119 = true := by decide +kernel
theorem K120 : ckP 11 false prog_1_method_13_code P120 = true := by decide +kernel
theorem K121 : ckP 11 false prog_1_method_14_code P121 = true := by decide +kernel
theorem K122 : ckP 11 false prog_1_method_15_code P122 = true := by decide +kernel
theorem K123 : ckP 11 false prog_1_method_38_code P123 = true := by decide +kernel
theorem K124 : ckP 11 false prog_1_method_39_code P124 = true := by decide +kernel
theorem K125 : ckP 11 false prog_1_method_16_code P125 = true := by decide +kernel
theorem K126 : ckP 11 false prog_1_method_40_code P126 = true := by decide +kernel
theorem K127 : ckP 11 false prog_1_method_17_code P127 = true := by decide +kernel
theorem K128 : ckP 11 false prog_1_method_42_code P128 = true := by decide +kernel
theorem K129 : ckP 11 false prog_1_method_41_code P129 = true := by decide +kernel
theorem K130 : ckP 11 false prog_1_method_18_code P130 = true := by decide +kernel
theorem K131 : ckP 11 false prog_1_method_19_code P131 = true := by decide +kernel
theorem K132 : ckP 11 false prog_1_method_20_code P132 = true := by decide +kernel
theorem K133 : ckP 11 false prog_1_method_43_code P133 = true := by decide +kernel
theorem K134 : ckP 11 false prog_1_method_44_code P134 = true := by decide +kernel
theorem K135 : ckP 11 false prog_1_method_45_code P135 = true := by decide +kernel
theorem K136 : ckP 11 false prog_1_method_46_code P136 = true := by decide +kernel
theorem K137 : ckP 11 false prog_1_method_21_code P137 = true := by decide +kernel
theorem K138 : ckP 11 false prog_1_method_22_code P138 = true := by decide +kernel
theorem K139 : ckP 11 false prog_1_method_23_code P139 = true := by decide +kernel
theorem K140 : ckP 11 false prog_1_method_24_code P140 = true := by decide +kernel
theorem K141 : ckP 11 false prog_1_method_25_code P141 = true := by decide +kernel
theorem K142 : ckP 11 false prog_1_method_47_code P142 = true := by decide +kernel
theorem K143 : ckP 11 false prog_1_method_26_code P143 = true := by decide +kernel
theorem K144 : ckP 11 false prog_1_method_27_code P144 = true := by decide +kernel
theorem K145 : ckP 11 false prog_1_method_28_code P145 = true := by decide +kernel
theorem K146 : ckP 11 false prog_1_method_29_code P146 = true := by decide +kernel
theorem K147 : ckP 11 false prog_1_method_30_code P147 = true := by decide +kernel
theorem K148 : ckP 11 false prog_1_method_31_code P148 = true := by decide +kernel
theorem K149 : ckP 11 false prog_1_method_32_code P149 = true := by decide +kernel
theorem K150 : ckP 11 false prog_1_method_48_code P150 = true := by decide +kernel
theorem K151 : ckP 11 false prog_1_method_34_code P151 = true := by decide +kernel
theorem K152 : ckP 11 false prog_1_method_51_code P152 = true := by decide +kernel
theorem K153 : ckP 11 false prog_1_method_52_code P153 = true := by decide +kernel
theorem K154 : ckP 11 false prog_1_method_35_code P154 = true := by decide +kernel
theorem K155 : ckP 11 false prog_1_method_36_code P155 = true := by decide +kernel
theorem K156 : ckP 11 false prog_1_method_33_code P156 = true := by decide +kernel
theorem K157 : ckP 11 false prog_1_method_49_code P157 = true := by decide +kernel
theorem K158 : ckP 11 false prog_1_method_50_code P158 = true := by decide +kernel
end
section
theorem K159 : ckP 12 false prog_14_method_1_code P159 = true := by decide +kernel
theorem K160 : ckP 12 false prog_14_method_2_code P160 = true := by decide +kernel
theorem K161 : ckP 12 false prog_14_method_3_code P161 = true := by decide +kernel
theorem K162 : ckP 12 true prog_14_method_4_code P162 = true := by decide +kernel
theorem K163 : ckP 12 false prog_14_method_18_code P163 = true := by decide +kernel
theorem K164 : ckP 12 false prog_14_method_42_code P164 = true := by decide +kernel
theorem K165 : ckP 12 false prog_14_method_41_code P165 = true := by decide +kernel
theorem K166 : ckP 12 false prog_14_method_44_code P166 = true := by decide +kernel
theorem K167 : ckP 12 false prog_14_method_46_code P167 = true := by decide +kernel
theorem K168 : ckP 12 false prog_14_method_45_code P168 = true := by decide +kernel
theorem K169 : ckP 12 false prog_14_method_47_code P169 = true := by decide +kernel
theorem K170 : ckP 12 false prog_14_method_26_code P170 = true := by decide +kernel
theorem K171 : ckP 12 false prog_14_method_9_code P171 = true := by decide +kernel
theorem K172 : ckP 12 false prog_14_method_5_code P172 = true := by decide +kernel
theorem K173 : ckP 12 false prog_14_method_7_code P173 = true := by decide +kernel
theorem K174 : ckP 12 false prog_14_method_6_code P174 = true := by decide +kernel
theorem K175 : ckP 12 false prog_14_method_8_code P175 = true := by decide +kernel
theorem K176 : ckP 12 false prog_14_method_27_code P176 = true := by decide +kernel
theorem K177 : ckP 12 false prog_14_method_12_code P177 = true := by decide +kernel
theorem K178 : ckP 12 false prog_14_method_28_code P178 = true := by decide +kernel
theorem K179 : ckP 12 false prog_14_method_10_code P179 = true := by decide +kernel
theorem K180 : ckP 12 false prog_14_method_23_code P180 = true := by decide +kernel
theorem K181 : ckP 12 false prog_14_method_21_code P181 = true := by decide +kernel
theorem K182 : ckP 12 false prog_14_method_24_code P182 = true := by decide +kernel
theorem K183 : ckP 12 false prog_14_method_22_code P183 = true := by decide +kernel
theorem K184 : ckP 12 false prog_14_method_20_code P184 = true := by decide +kernel
theorem K185 : ckP 12 false prog_14_method_16_code P185 = true := by decide +kernel
theorem K186 : ckP 12 false prog_14_method_15_code P186 = true := by decide +kernel
theorem K187 : ckP 12 false prog_14_method_19_code P187 = true := by decide +kernel
theorem K188 : ckP 12 false prog_14_method_29_code P188 = true := by decide +kernel
theorem K189 : ckP 12 false prog_14_method_30_code P189 = true := by decide +kernel
theorem K190 : ckP 12 false prog_14_method_33_code P190 = true := by decide +kernel
theorem K191 : ckP 12 false prog_14_method_34_code P191 = true := by decide +kernel
theorem K192 : ckP 12 false prog_14_method_35_code P192 = true := by decide +kernel
theorem K193 : ckP 12 false prog_14_method_36_code P193 = true := by decide +kernel
theorem K194 : ckP 12 false prog_14_method_37_code P194 = true := by decide +kernel
theorem K195 : ckP 12 false prog_14_method_11_code P195 = true := by decide +kernel
theorem K196 : ckP 12 false prog_14_method_32_code P196 = true := by decide +kernel
theorem K197 : ckP 12 false prog_14_method_14_code P197 = true := by decide +kernel
theorem K198 : ckP 12 false prog_14_method_13_code P198 = true := by decide +kernel
theorem K199 : ckP 12 false prog_14_method_31_code P199 = true := by decide +kernel
theorem K200 : ckP 12 false prog_14_method_25_code P200 = true := by decide +kernel
theorem K201 : ckP 12 false prog_14_method_17_code P201 = true := by decide +kernel
theorem K202 : ckP 12 false prog_14_method_69_code P202 = true := by decide +kernel
theorem K203 : ckP 12 false prog_14_method_48_code P203 = true := by decide +kernel
theorem K204 : ckP 12 false prog_14_method_52_code P204 = true := by decide +kernel
theorem K205 : ckP 12 false prog_14_method_50_code P205 = true := by decide +kernel
theorem K206 : ckP 12 false prog_14_method_51_code P206 = true := by decide +kernel
theorem K207 : ckP 12 false prog_14_method_53_code P207 = true := by decide +kernel
theorem K208 : ckP 12 false prog_14_method_38_code P208 = true := by decide +kernel
theorem K209 : ckP 12 false prog_14_method_39_code P209 = true := by decide +kernel
theorem K210 : ckP 12 false prog_14_method_57_code P210 = true := by decide +kernel
theorem K211 : ckP 12 false prog_14_method_70_code P211 = true := by decide +kernel
theorem K212 : ckP 12 false prog_14_method_49_code P212 = true := by decide +kernel
theorem K213 : ckP 12 false prog_14_method_71_code P213 = true := by decide +kernel
theorem K214 : ckP 12 false prog_14_method_56_code P214 = true := by decide +kernel
theorem K215 : ckP 12 false prog_14_method_55_code P215 = true := by decide +kernel
theorem K216 : ckP 12 false prog_14_method_54_code P216 = true := by decide +kernel
theorem K217 : ckP 12 false prog_14_method_72_code P217 = true := by decide +kernel
theorem K218 : ckP 12 false prog_14_method_59_code P218 = true := by decide +kernel
theorem K219 : ckP 12 false prog_14_method_43_code P219 = true := by decide +kernel
theorem K220 : ckP 12 false prog_14_method_40_code P220 = true := by decide +kernel
theorem K221 : ckP 12 false prog_14_method_60_code P221 = true := by decide +kernel
theorem K222 : ckP 12 false prog_14_method_61_code P222 = true := by decide +kernel
theorem K223 : ckP 12 false prog_14_method_58_code P223 = true := by decide +kernel
theorem K224 : ckP 12 false prog_14_method_73_code P224 = true := by decide +kernel
theorem K225 : ckP 12 false prog_14_method_62_code P225 = true := by decide +kernel
theorem K226 : ckP 12 false prog_14_method_63_code P226 = true := by decide +kernel
theorem K227 : ckP 12 false prog_14_method_74_code P227 = true := by decide +kernel
theorem K228 : ckP 12 false prog_14_method_64_code P228 = true := by decide +kernel
theorem K229 : ckP 12 false prog_14_method_75_code P229 = true := by decide +kernel
theorem K230 : ckP 12 false prog_14_method_65_code P230 = true := by decide +kernel
theorem K231 : ckP 12 false prog_14_method_76_code P231 = true := by decide +kernel
theorem K232 : ckP 12 false prog_14_method_66_code P232 = true := by decide +kernel
theorem K233 : ckP 12 false prog_14_method_77_code P233 = true := by decide +kernel
theorem K234 : ckP 12 false prog_14_method_78_code P234 = true := by decide +kernel
theorem K235 : ckP 12 false prog_14_method_67_code P235 = true := by decide +kernel
theorem K236 : ckP 12 false prog_14_method_80_code P236 = true := by decide +kernel
theorem K237 : ckP 12 false prog_14_method_79_code P237 = true := by decide +kernel
theorem K238 : ckP 12 false prog_14_method_82_code P238 = true := by decide +kernel
theorem K239 : ckP 12 false prog_14_method_81_code P239 = true := by decide +kernel
theorem K240 : ckP 12 false prog_14_method_85_code P240 = true := by decide +kernel
theorem K241 : ckP 12 false prog_14_method_84_code P241 = true := by decide +kernel
theorem K242 : ckP 12 false prog_14_method_83_code P242 = true := by decide +kernel
theorem K243 : ckP 12 false prog_14_method_86_code P243 = true := by decide +kernel
theorem K244 : ckP 12 false prog_14_method_90_code P244 = true := by decide +kernel
theorem K245 : ckP 12 false prog_14_method_87_code P245 = true := by decide +kernel
theorem K246 : ckP 12 false prog_14_method_68_code P246 = true := by decide +kernel
theorem K247 : ckP 12 false prog_14_method_89_code P247 = true := by decide +kernel
theorem K248 : ckP 12 false prog_14_method_88_code P248 = true := by decide +kernel
theorem K249 : ckP 12 false prog_14_method_92_code P249 = true := by decide +kernel
theorem K250 : ckP 12 false prog_14_method_91_code P250 = true := by decide +kernel
theorem K251 : ckP 12 false prog_14_method_93_code P251 = true := by decide +kernel
theorem K252 : ckP 12 false prog_14_method_94_code P252 = true := by decide +kernel
theorem K253 : ckP 12 false prog_14_method_95_code P253 = true := by decide +kernel
theorem K254 : ckP 12 false prog_14_method_96_code P254 = true := by decide +kernel
theorem K255 : ckP 12 false prog_14_method_99_code P255 = true := by decide +kernel
theorem K256 : ckP 12 false prog_14_method_98_code P256 = true := by decide +kernel
theorem K257 : ckP 12 false prog_14_method_97_code P257 = true := by decide +kernel
theorem K258 : ckP 12 false prog_14_method_100_code P258 = true := by decide +kernel
theorem K259 : ckP 12 false prog_14_method_101_code P259 = true := by decide +kernel
theorem K260 : ckP 12 false prog_14_method_102_code P260 = true := by decide +kernel
theorem K261 : ckP 12 false prog_14_method_103_code P261 = true := by decide +kernel
theorem K262 : ckP 12 false prog_14_method_104_code P262 = true := by decide +kernel
theorem K263 : ckP 12 false prog_14_method_105_code P263 = true := by decide +kernel
theorem K264 : ckP 12 false prog_14_method_106_code P264 = true := by decide +kernel
theorem K265 : ckP 12 false prog_14_method_108_code P265 = true := by decide +kernel
theorem K266 : ckP 12 false prog_14_method_107_code P266 = true := by decide +kernel
theorem K267 : ckP 12 false prog_14_method_111_code P267 = true := by decide +kernel
theorem K268 : ckP 12 false prog_14_method_110_code P268 = true := by decide +kernel
theorem K269 : ckP 12 false prog_14_method_109_code P269 = true := by decide +kernel
theorem K270 : ckP 12 false prog_14_method_112_code P270 = true := by decide +kernel
theorem K271 : ckP 12 false prog_14_method_114_code P271 = true := by decide +kernel
theorem K272 : ckP 12 false prog_14_method_113_code P272 = true := by decide +kernel
end
section
theorem KL_0 : ckB 13 false code [.new 11, .dup, .invokespecial 107, .astore_n 1, .new 12, .dup, .invokespecial 162, .astore_n 2, .iconst 1, .newarray .long, .astore_n 3, .iconst 0, .istore 4] 0 = true := by decide +kernel
theorem KL_23 : ckB 13 false code [.iload 4, .aload_n 0, .arraylength, .bipush 7, .isub, .if_icmp .gt 1304, .aload_n 0, .iload 4, .iaload, .bipush 63, .iand, .tableswitch 1288 0 34 #[156, 303, 316, 329, 366, 403, 440, 477, 514, 551, 576, 589, 602, 627, 652, 677, 702, 727, 752, 777, 802, 839, 892, 917, 930, 943, 956, 969, 982, 995, 1020, 1069, 1161, 1210, 1263]] 23 = true := by decide +kernel
theorem KL_196 : ckB 13 false code [.aload_n 1, .aload_n 0, .iload 4, .iconst 1, .iadd, .iaload, .i2l, .bipush 32, .lshl, .aload_n 0, .iload 4, .iconst 2, .iadd, .iaload, .i2l, .jsr 4294967295, .land, .lor, .aload_n 0, .iload 4, .iconst 3, .iadd, .iaload, .i2l, .bipush 32, .lshl, .aload_n 0, .iload 4, .iconst 4, .iadd, .iaload, .i2l, .jsr 4294967295, .land, .lor, .aload_n 0, .iload 4, .iconst 5, .iadd, .iaload, .i2l, .bipush 32, .lshl, .aload_n 0, .iload 4, .bipush 6, .iadd, .iaload, .i2l, .jsr 4294967295, .land, .lor, .invokevirtual 108, .aload_n 2, .aload_n 0, .iload 4, .iconst 1, .iadd, .iaload, .i2l, .bipush 32, .lshl, .aload_n 0, .iload 4, .iconst 2, .iadd, .iaload, .i2l, .jsr 4294967295, .land, .lor, .aload_n 0, .iload 4, .iconst 3, .iadd, .iaload, .i2l, .bipush 32, .lshl, .aload_n 0, .iload 4, .iconst 4, .iadd, .iaload, .i2l, .jsr 4294967295, .land, .lor, .aload_n 0, .iload 4, .iconst 5, .iadd, .iaload, .i2l, .bipush 32, .lshl, .aload_n 0, .iload 4, .bipush 6, .iadd, .iaload, .i2l, .jsr 4294967295, .land, .lor, .invokevirtual 160, .if_icmp .eq 990, .iconst 0, .ireturn] 196 = true := by decide +kernel
theorem KL_343 : ckB 13 false code [.aload_n 1, .invokevirtual 110, .aload_n 2, .invokevirtual 170, .if_icmp .eq 977, .iconst 0, .ireturn] 343 = true := by decide +kernel
theorem KL_356 : ckB 13 false code [.aload_n 1, .invokevirtual 111, .aload_n 2, .invokevirtual 199, .if_icmp .eq 964, .iconst 0, .ireturn] 356 = true := by decide +kernel
theorem KL_369 : ckB 13 false code [.aload_n 1, .aload_n 0, .iload 4, .iconst 1, .iadd, .iaload, .aload_n 0, .iload 4, .iconst 2, .iadd, .iaload, .invokevirtual 112, .aload_n 2, .aload_n 0, .iload 4, .iconst 1, .iadd, .iaload, .aload_n 0, .iload 4, .iconst 2, .iadd, .iaload, .invokevirtual 202, .if_icmp .eq 927, .iconst 0, .ireturn] 369 = true := by decide +kernel
theorem KL_406 : ckB 13 false code [.aload_n 1, .aload_n 0, .iload 4, .iconst 1, .iadd, .iaload, .aload_n 0, .iload 4, .iconst 2, .iadd, .iaload, .invokevirtual 113, .aload_n 2, .aload_n 0, .iload 4, .iconst 1, .iadd, .iaload, .aload_n 0, .iload 4, .iconst 2, .iadd, .iaload, .invokevirtual 211, .if_icmp .eq 890, .iconst 0, .ireturn] 406 = true := by decide +kernel
theorem KL_443 : ckB 13 false code [.aload_n 1, .aload_n 0, .iload 4, .iconst 1, .iadd, .iaload, .aload_n 0, .iload 4, .iconst 2, .iadd, .iaload, .invokevirtual 114, .aload_n 2, .aload_n 0, .iload 4, .iconst 1, .iadd, .iaload, .aload_n 0, .iload 4, .iconst 2, .iadd, .iaload, .invokevirtual 213, .if_icmp .eq 853, .iconst 0, .ireturn] 443 = true := by decide +kernel
theorem KL_480 : ckB 13 false code [.aload_n 1, .aload_n 0, .iload 4, .iconst 1, .iadd, .iaload, .aload_n 0, .iload 4, .iconst 2, .iadd, .iaload, .invokevirtual 115, .aload_n 2, .aload_n 0, .iload 4, .iconst 1, .iadd, .iaload, .aload_n 0, .iload 4, .iconst 2, .iadd, .iaload, .invokevirtual 217, .if_icmp .eq 816, .iconst 0, .ireturn] 480 = true := by decide +kernel
theorem KL_517 : ckB 13 false code [.aload_n 1, .aload_n 0, .iload 4, .iconst 1, .iadd, .iaload, .aload_n 0, .iload 4, .iconst 2, .iadd, .iaload, .invokevirtual 116, .aload_n 2, .aload_n 0, .iload 4, .iconst 1, .iadd, .iaload, .aload_n 0, .iload 4, .iconst 2, .iadd, .iaload, .invokevirtual 224, .if_icmp .eq 779, .iconst 0, .ireturn] 517 = true := by decide +kernel
theorem KL_554 : ckB 13 false code [.aload_n 1, .aload_n 0, .iload 4, .iconst 1, .iadd, .iaload, .aload_n 0, .iload 4, .iconst 2, .iadd, .iaload, .invokevirtual 117, .aload_n 2, .aload_n 0, .iload 4, .iconst 1, .iadd, .iaload, .aload_n 0, .iload 4, .iconst 2, .iadd, .iaload, .invokevirtual 227, .if_icmp .eq 742, .iconst 0, .ireturn] 554 = true := by decide +kernel
theorem KL_591 : ckB 13 false code [.aload_n 1, .aload_n 0, .iload 4, .iconst 1, .iadd, .iaload, .invokevirtual 118, .aload_n 2, .aload_n 0, .iload 4, .iconst 1, .iadd, .iaload, .invokevirtual 229, .if_icmp .eq 717, .iconst 0, .ireturn] 591 = true := by decide +kernel
theorem KL_616 : ckB 13 false code [.aload_n 1, .invokevirtual 119, .aload_n 2, .invokevirtual 231, .if_icmp .eq 704, .iconst 0, .ireturn] 616 = true := by decide +kernel
theorem KL_629 : ckB 13 false code [.aload_n 1, .invokevirtual 120, .aload_n 2, .invokevirtual 233, .if_icmp .eq 691, .iconst 0, .ireturn] 629 = true := by decide +kernel
theorem KL_642 : ckB 13 false code [.aload_n 1, .aload_n 0, .iload 4, .iconst 1, .iadd, .iaload, .invokevirtual 121, .aload_n 2, .aload_n 0, .iload 4, .iconst 1, .iadd, .iaload, .invokevirtual 234, .if_icmp .eq 666, .iconst 0, .ireturn] 642 = true := by decide +kernel
theorem KL_667 : ckB 13 false code [.aload_n 1, .aload_n 0, .iload 4, .iconst 1, .iadd, .iaload, .invokevirtual 122, .aload_n 2, .aload_n 0, .iload 4, .iconst 1, .iadd, .iaload, .invokevirtual 236, .if_icmp .eq 641, .iconst 0, .ireturn] 667 = true := by decide +kernel
theorem KL_692 : ckB 13 false code [.aload_n 1, .aload_n 0, .iload 4, .iconst 1, .iadd, .iaload, .invokevirtual 125, .aload_n 2, .aload_n 0, .iload 4, .iconst 1, .iadd, .iaload, .invokevirtual 238, .if_icmp .eq 616, .iconst 0, .ireturn] 692 = true := by decide +kernel
theorem KL_717 : ckB 13 false code [.aload_n 1, .aload_n 0, .iload 4, .iconst 1, .iadd, .iaload, .invokevirtual 127, .aload_n 2, .aload_n 0, .iload 4, .iconst 1, .iadd, .iaload, .invokevirtual 240, .if_icmp .eq 591, .iconst 0, .ireturn] 717 = true := by decide +kernel
theorem KL_742 : ckB 13 false code [.aload_n 1, .aload_n 0, .iload 4, .iconst 1, .iadd, .iaload, .invokevirtual 130, .aload_n 2, .aload_n 0, .iload 4, .iconst 1, .iadd, .iaload, .invokevirtual 243, .if_icmp .eq 566, .iconst 0, .ireturn] 742 = true := by decide +kernel
theorem KL_767 : ckB 13 false code [.aload_n 1, .aload_n 0, .iload 4, .iconst 1, .iadd, .iaload, .invokevirtual 131, .aload_n 2, .aload_n 0, .iload 4, .iconst 1, .iadd, .iaload, .invokevirtual 244, .if_icmp .eq 541, .iconst 0, .ireturn] 767 = true := by decide +kernel
theorem KL_792 : ckB 13 false code [.aload_n 1, .aload_n 0, .iload 4, .iconst 1, .iadd, .iaload, .invokevirtual 132, .aload_n 2, .aload_n 0, .iload 4, .iconst 1, .iadd, .iaload, .invokevirtual 249, .if_icmp .eq 516, .iconst 0, .ireturn] 792 = true := by decide +kernel
theorem KL_817 : ckB 13 false code [.aload_n 1, .aload_n 0, .iload 4, .iconst 1, .iadd, .iaload, .invokevirtual 137, .aload_n 2, .aload_n 0, .iload 4, .iconst 1, .iadd, .iaload, .invokevirtual 251, .if_icmp .eq 491, .iconst 0, .ireturn] 817 = true := by decide +kernel
theorem KL_842 : ckB 13 false code [.aload_n 1, .aload_n 0, .iload 4, .iconst 1, .iadd, .iaload, .aload_n 0, .iload 4, .iconst 2, .iadd, .iaload, .invokevirtual 138, .aload_n 2, .aload_n 0, .iload 4, .iconst 1, .iadd, .iaload, .aload_n 0, .iload 4, .iconst 2, .iadd, .iaload, .invokevirtual 252, .if_icmp .eq 454, .iconst 0, .ireturn] 842 = true := by decide +kernel
theorem KL_879 : ckB 13 false code [.aload_n 1, .aload_n 0, .iload 4, .iconst 1, .iadd, .iaload, .aload_n 0, .iload 4, .iconst 2, .iadd, .iaload, .ifCond .eq 7, .iconst 1, .goto 4] 879 = true := by decide +kernel
theorem KL_899 : ckB 13 false code [.iconst 0, .invokevirtual 139, .aload_n 2, .aload_n 0, .iload 4, .iconst 1, .iadd, .iaload, .aload_n 0, .iload 4, .iconst 2, .iadd, .iaload, .ifCond .eq 7, .iconst 1, .goto 4] 899 = true := by decide +kernel
theorem KL_900 : ckB 13 false code [.invokevirtual 139, .aload_n 2, .aload_n 0, .iload 4, .iconst 1, .iadd, .iaload, .aload_n 0, .iload 4, .iconst 2, .iadd, .iaload, .ifCond .eq 7, .iconst 1, .goto 4] 900 = true := by decide +kernel
theorem KL_923 : ckB 13 false code [.iconst 0, .invokevirtual 254, .if_icmp .eq 401, .iconst 0, .ireturn] 923 = true := by decide +kernel
theorem KL_924 : ckB 13 false code [.invokevirtual 254, .if_icmp .eq 401, .iconst 0, .ireturn] 924 = true := by decide +kernel
theorem KL_932 : ckB 13 false code [.aload_n 1, .aload_n 0, .iload 4, .iconst 1, .iadd, .iaload, .invokevirtual 140, .aload_n 2, .aload_n 0, .iload 4, .iconst 1, .iadd, .iaload, .invokevirtual 255, .if_icmp .eq 376, .iconst 0, .ireturn] 932 = true := by decide +kernel
theorem KL_957 : ckB 13 false code [.aload_n 1, .invokevirtual 141, .aload_n 2, .invokevirtual 258, .if_icmp .eq 363, .iconst 0, .ireturn] 957 = true := by decide +kernel
theorem KL_970 : ckB 13 false code [.aload_n 1, .invokevirtual 143, .aload_n 2, .invokevirtual 259, .if_icmp .eq 350, .iconst 0, .ireturn] 970 = true := by decide +kernel
theorem KL_983 : ckB 13 false code [.aload_n 1, .invokevirtual 144, .aload_n 2, .invokevirtual 260, .if_icmp .eq 337, .iconst 0, .ireturn] 983 = true := by decide +kernel
theorem KL_996 : ckB 13 false code [.aload_n 1, .invokevirtual 145, .aload_n 2, .invokevirtual 261, .if_icmp .eq 324, .iconst 0, .ireturn] 996 = true := by decide +kernel
theorem KL_1009 : ckB 13 false code [.aload_n 1, .invokevirtual 146, .aload_n 2, .invokevirtual 262, .if_icmp .eq 311, .iconst 0, .ireturn] 1009 = true := by decide +kernel
theorem KL_1022 : ckB 13 false code [.aload_n 1, .invokevirtual 147, .aload_n 2, .invokevirtual 263, .if_icmp .eq 298, .iconst 0, .ireturn] 1022 = true := by decide +kernel
theorem KL_1035 : ckB 13 false code [.aload_n 1, .aload_n 0, .iload 4, .iconst 1, .iadd, .iaload, .invokevirtual 148, .aload_n 2, .aload_n 0, .iload 4, .iconst 1, .iadd, .iaload, .invokevirtual 253, .if_icmp .eq 273, .iconst 0, .ireturn] 1035 = true := by decide +kernel
theorem KL_1060 : ckB 13 false code [.aload_n 1, .aload_n 0, .iload 4, .iconst 1, .iadd, .iaload, .aload_n 0, .iload 4, .iconst 2, .iadd, .iaload, .aload_n 0, .iload 4, .iconst 3, .iadd, .iaload, .invokevirtual 149, .aload_n 2, .aload_n 0, .iload 4, .iconst 1, .iadd, .iaload, .aload_n 0, .iload 4, .iconst 2, .iadd, .iaload, .aload_n 0, .iload 4, .iconst 3, .iadd, .iaload, .invokevirtual 264, .if_icmp .eq 224, .iconst 0, .ireturn] 1060 = true := by decide +kernel
theorem KL_1109 : ckB 13 false code [.aload_n 1, .aload_n 0, .iload 4, .iconst 1, .iadd, .iaload, .aload_n 0, .iload 4, .iconst 2, .iadd, .iaload, .aload_n 0, .iload 4, .iconst 3, .iadd, .iaload, .aload_n 0, .iload 4, .iconst 4, .iadd, .iaload, .aload_n 3, .invokestatic 291, .istore 5, .aload_n 2, .aload_n 0, .iload 4, .iconst 1, .iadd, .iaload, .aload_n 0, .iload 4, .iconst 2, .iadd, .iaload, .aload_n 0, .iload 4, .iconst 3, .iadd, .iaload, .aload_n 0, .iload 4, .iconst 4, .iadd, .iaload, .invokevirtual 265, .istore 6, .aload_n 2, .invokevirtual 159, .iload 5, .if_icmp .eq 5, .iconst 0, .ireturn] 1109 = true := by decide +kernel
theorem KL_1181 : ckB 13 false code [.iload 5, .ifCond .ne 15, .aload_n 3, .iconst 0, .laload, .iload 6, .i2l, .lcmp, .ifCond .eq 5, .iconst 0, .ireturn] 1181 = true := by decide +kernel
theorem KL_1198 : ckB 13 false code [.goto 130] 1198 = true := by decide +kernel
theorem KL_1201 : ckB 13 false code [.aload_n 1, .aload_n 0, .iload 4, .iconst 1, .iadd, .iaload, .aload_n 0, .iload 4, .iconst 2, .iadd, .iaload, .aload_n 0, .iload 4, .iconst 3, .iadd, .iaload, .invokevirtual 151, .aload_n 2, .aload_n 0, .iload 4, .iconst 1, .iadd, .iaload, .aload_n 0, .iload 4, .iconst 2, .iadd, .iaload, .aload_n 0, .iload 4, .iconst 3, .iadd, .iaload, .invokevirtual 267, .if_icmp .eq 83, .iconst 0, .ireturn] 1201 = true := by decide +kernel
theorem KL_1250 : ckB 13 false code [.aload_n 1, .aload_n 0, .iload 4, .iconst 1, .iadd, .iaload, .aload_n 0, .iload 4, .iconst 2, .iadd, .iaload, .ifCond .eq 7, .iconst 1, .goto 4] 1250 = true := by decide +kernel
theorem KL_1270 : ckB 13 false code [.iconst 0, .invokevirtual 154, .aload_n 2, .aload_n 0, .iload 4, .iconst 1, .iadd, .iaload, .aload_n 0, .iload 4, .iconst 2, .iadd, .iaload, .ifCond .eq 7, .iconst 1, .goto 4] 1270 = true := by decide +kernel
theorem KL_1271 : ckB 13 false code [.invokevirtual 154, .aload_n 2, .aload_n 0, .iload 4, .iconst 1, .iadd, .iaload, .aload_n 0, .iload 4, .iconst 2, .iadd, .iaload, .ifCond .eq 7, .iconst 1, .goto 4] 1271 = true := by decide +kernel
theorem KL_1294 : ckB 13 false code [.iconst 0, .invokevirtual 270, .if_icmp .eq 30, .iconst 0, .ireturn] 1294 = true := by decide +kernel
theorem KL_1295 : ckB 13 false code [.invokevirtual 270, .if_icmp .eq 30, .iconst 0, .ireturn] 1295 = true := by decide +kernel
theorem KL_1303 : ckB 13 false code [.aload_n 1, .aload_n 0, .iload 4, .iconst 1, .iadd, .iaload, .invokevirtual 155, .aload_n 2, .aload_n 0, .iload 4, .iconst 1, .iadd, .iaload, .invokevirtual 271, .if_icmp .eq 5, .iconst 0, .ireturn] 1303 = true := by decide +kernel
theorem KL_1328 : ckB 13 false code [.iinc 4 7, .goto (-1308)] 1328 = true := by decide +kernel
theorem KL_1334 : ckB 13 false code [.iconst 1, .ireturn] 1334 = true := by decide +kernel
theorem K290 : ∀ q ∈ P290, ckB 13 false code q.2 q.1 = true := List.forall_mem_cons.mpr ⟨KL_0, List.forall_mem_cons.mpr ⟨KL_23, List.forall_mem_cons.mpr ⟨KL_196, List.forall_mem_cons.mpr ⟨KL_343, List.forall_mem_cons.mpr ⟨KL_356, List.forall_mem_cons.mpr ⟨KL_369, List.forall_mem_cons.mpr ⟨KL_406, List.forall_mem_cons.mpr ⟨KL_443, List.forall_mem_cons.mpr ⟨KL_480, List.forall_mem_cons.mpr ⟨KL_517, List.forall_mem_cons.mpr ⟨KL_554, List.forall_mem_cons.mpr ⟨KL_591, List.forall_mem_cons.mpr ⟨KL_616, List.forall_mem_cons.mpr ⟨KL_629, List.forall_mem_cons.mpr ⟨KL_642, List.forall_mem_cons.mpr ⟨KL_667, List.forall_mem_cons.mpr ⟨KL_692, List.forall_mem_cons.mpr ⟨KL_717, List.forall_mem_cons.mpr ⟨KL_742, List.forall_mem_cons.mpr ⟨KL_767, List.forall_mem_cons.mpr ⟨KL_792, List.forall_mem_cons.mpr ⟨KL_817, List.forall_mem_cons.mpr ⟨KL_842, List.forall_mem_cons.mpr ⟨KL_879, List.forall_mem_cons.mpr ⟨KL_899, List.forall_mem_cons.mpr ⟨KL_900, List.forall_mem_cons.mpr ⟨KL_923, List.forall_mem_cons.mpr ⟨KL_924, List.forall_mem_cons.mpr ⟨KL_932, List.forall_mem_cons.mpr ⟨KL_957, List.forall_mem_cons.mpr ⟨KL_970, List.forall_mem_cons.mpr ⟨KL_983, List.forall_mem_cons.mpr ⟨KL_996, List.forall_mem_cons.mpr ⟨KL_1009, List.forall_mem_cons.mpr ⟨KL_1022, List.forall_mem_cons.mpr ⟨KL_1035, List.forall_mem_cons.mpr ⟨KL_1060, List.forall_mem_cons.mpr ⟨KL_1109, List.forall_mem_cons.mpr ⟨KL_1181, List.forall_mem_cons.mpr ⟨KL_1198, List.forall_mem_cons.mpr ⟨KL_1201, List.forall_mem_cons.mpr ⟨KL_1250, List.forall_mem_cons.mpr ⟨KL_1270, List.forall_mem_cons.mpr ⟨KL_1271, List.forall_mem_cons.mpr ⟨KL_1294, List.forall_mem_cons.mpr ⟨KL_1295, List.forall_mem_cons.mpr ⟨KL_1303, List.forall_mem_cons.mpr ⟨KL_1328, List.forall_mem_cons.mpr ⟨KL_1334, fun _ h => absurd h List.not_mem_nil⟩⟩⟩⟩⟩⟩⟩⟩⟩⟩⟩⟩⟩⟩⟩⟩⟩⟩⟩⟩⟩⟩⟩⟩⟩⟩⟩⟩⟩⟩⟩⟩⟩⟩⟩⟩⟩⟩⟩⟩⟩⟩⟩⟩⟩⟩⟩⟩⟩
end
section
/-! THE SMALL MACHINE: memory by the order of making (1, 2, ..; 0 is null), kinds 0-12 objects, 13 char, 14 int, 15 long, 16 boolean rows, 17, 18 rows of references -/
abbrev mm_M : Type := (Nat → Nat) × (Nat → Nat) × (Nat → Nat → Int32) × (Nat → Nat → Int64) × (Nat → Nat → Nat) × Nat × Nat
def mK (M : mm_M) (a : Nat) : Nat := M.1 a
def mN (M : mm_M) (a : Nat) : Nat := M.2.1 a
def mI (M : mm_M) (a k : Nat) : Int32 := M.2.2.1 a k
def mJ (M : mm_M) (a k : Nat) : Int64 := M.2.2.2.1 a k
def mR (M : mm_M) (a k : Nat) : Nat := M.2.2.2.2.1 a k
def mS (M : mm_M) : Nat := M.2.2.2.2.2.1
def mW (M : mm_M) : Nat := M.2.2.2.2.2.2
def u1 {α : Type} (f : Nat → α) (a : Nat) (v : α) : Nat → α := fun x => if x = a then v else f x
def u2 {α : Type} (f : Nat → Nat → α) (a k : Nat) (v : α) : Nat → Nat → α := fun x y => if x = a then (if y = k then v else f x y) else f x y
def sI (M : mm_M) (a k : Nat) (v : Int32) : mm_M := (M.1, M.2.1, u2 M.2.2.1 a k v, M.2.2.2.1, M.2.2.2.2.1, M.2.2.2.2.2.1, M.2.2.2.2.2.2)
def sJ (M : mm_M) (a k : Nat) (v : Int64) : mm_M := (M.1, M.2.1, M.2.2.1, u2 M.2.2.2.1 a k v, M.2.2.2.2.1, M.2.2.2.2.2.1, M.2.2.2.2.2.2)
def sR (M : mm_M) (a k : Nat) (v : Nat) : mm_M := (M.1, M.2.1, M.2.2.1, M.2.2.2.1, u2 M.2.2.2.2.1 a k v, M.2.2.2.2.2.1, M.2.2.2.2.2.2)
def rwI (M : mm_M) (a : Nat) (g : Nat → Int32) : mm_M := (M.1, M.2.1, u1 M.2.2.1 a g, M.2.2.2.1, M.2.2.2.2.1, M.2.2.2.2.2.1, M.2.2.2.2.2.2)
def rwJ (M : mm_M) (a : Nat) (g : Nat → Int64) : mm_M := (M.1, M.2.1, M.2.2.1, u1 M.2.2.2.1 a g, M.2.2.2.2.1, M.2.2.2.2.2.1, M.2.2.2.2.2.2)
/-- a new cell of kind kd, length n, w places -/
def nw (M : mm_M) (kd n w : Nat) : mm_M := (u1 M.1 (mS M) kd, u1 M.2.1 (mS M) n, u1 M.2.2.1 (mS M) (fun _ => 0), u1 M.2.2.2.1 (mS M) (fun _ => 0), u1 M.2.2.2.2.1 (mS M) (fun _ => 0), mS M + 1, mW M + w)
/-- what stands outside: strings 0-14, their bytes 100-114, the two static rows 200, 201, the script 300 -/
def xlen (L : Nat) (n : Nat) : Nat := if n = 300 then L else if n = 200 then 4 else if n = 201 then 4 else 0
def xrow (xs : Nat → Int32) (n : Nat) (k : Nat) : Int32 := if n = 300 then xs k else if n = 200 then ([1, 3, 0, 2] : List Int32).getD k 0 else ([3, 2, 0, 1] : List Int32).getD k 0
def jk : Value := .float 0
/-- a value into local i: a long that ends there is gone -/
def pre (ls : List Value) (i : Nat) : List Value := match i with
  | 0 => ls
  | n + 1 => match ls[n]? with
    | some (.long _) => ls.set n jk
    | some (.double _) => ls.set n jk
    | _ => ls
def st1 (ls : List Value) (i : Nat) (v : Value) : List Value := (pre ls i).set i v
def st2 (ls : List Value) (i : Nat) (v : Value) : List Value := ((pre ls i).set i v).set (i + 1) jk
/-- loads -/
def ldI (ls st : List Value) (i : Nat) : Option (List Value × List Value) := match ls[i]? with | some (.int x) => some (ls, .int x :: st) | _ => none
def ldL (ls st : List Value) (i : Nat) : Option (List Value × List Value) := match ls[i]? with | some (.long x) => some (ls, .long x :: st) | _ => none
def ldA (ls st : List Value) (i : Nat) : Option (List Value × List Value) := match ls[i]? with | some (.ref x) => some (ls, .ref x :: st) | some (.retAddr n) => some (ls, .retAddr n :: st) | _ => none
def soI (ls st : List Value) (i : Nat) : Option (List Value × List Value) := match st with | .int x :: st => if i < ls.length then some (st1 ls i (.int x), st) else none | _ => none
def soL (ls st : List Value) (i : Nat) : Option (List Value × List Value) := match st with | .long x :: st => if i + 1 < ls.length then some (st2 ls i (.long x), st) else none | _ => none
def soA (ls st : List Value) (i : Nat) : Option (List Value × List Value) := match st with | .ref x :: st => if i < ls.length then some (st1 ls i (.ref x), st) else none | _ => none
def o1I (ls st : List Value) (f : Int32 → Value) : Option (List Value × List Value) := match st with | .int x :: st => some (ls, f x :: st) | _ => none
def o2I (ls st : List Value) (f : Int32 → Int32 → Value) : Option (List Value × List Value) := match st with | .int y :: .int x :: st => some (ls, f x y :: st) | _ => none
def o1L (ls st : List Value) (f : Int64 → Value) : Option (List Value × List Value) := match st with | .long x :: st => some (ls, f x :: st) | _ => none
def o2L (ls st : List Value) (f : Int64 → Int64 → Value) : Option (List Value × List Value) := match st with | .long y :: .long x :: st => some (ls, f x y :: st) | _ => none
def oLI (ls st : List Value) (f : Int64 → Int32 → Value) : Option (List Value × List Value) := match st with | .int y :: .long x :: st => some (ls, f x y :: st) | _ => none
/-- an instruction without memory and without a guard -/
def sx (i : Instr) (ls st : List Value) : Option (List Value × List Value) :=
  match i with
  | .iload n => ldI ls st n
  | .iload_n n => ldI ls st n
  | .lload n => ldL ls st n
  | .lload_n n => ldL ls st n
  | .aload n => ldA ls st n
  | .aload_n n => ldA ls st n
  | .istore n => soI ls st n
  | .istore_n n => soI ls st n
  | .lstore n => soL ls st n
  | .lstore_n n => soL ls st n
  | .astore n => soA ls st n
  | .astore_n n => soA ls st n
  | .iconst n => some (ls, .int (Int32.ofInt n) :: st)
  | .bipush n => some (ls, .int (Int8.ofInt n).toInt32 :: st)
  | .sipush n => some (ls, .int (Int16.ofInt n).toInt32 :: st)
  | .lconst n => some (ls, .long (Int64.ofNat (n : Nat)) :: st)
  | .iinc n k => (match ls[n]? with | some (.int x) => some (st1 ls n (.int (x + Int32.ofInt k)), st) | _ => none)
  | .iadd => o2I ls st (fun x y => .int (x + y))
  | .isub => o2I ls st (fun x y => .int (x - y))
  | .imul => o2I ls st (fun x y => .int (x * y))
  | .iand => o2I ls st (fun x y => .int (x &&& y))
  | .ior => o2I ls st (fun x y => .int (x ||| y))
  | .ixor => o2I ls st (fun x y => .int (x ^^^ y))
  | .ishl => o2I ls st (fun x y => .int (x <<< (y &&& 31)))
  | .ishr => o2I ls st (fun x y => .int (x >>> (y &&& 31)))
  | .iushr => o2I ls st (fun x y => .int (x.toUInt32 >>> (y.toUInt32 &&& Int32.toUInt32 31)).toInt32)
  | .ineg => o1I ls st (fun x => .int (-x))
  | .i2l => o1I ls st (fun x => .long x.toInt64)
  | .i2c => o1I ls st (fun x => .int (x.toUInt32 % 65536).toInt32)
  | .i2b => o1I ls st (fun x => .int x.toInt8.toInt32)
  | .l2i => o1L ls st (fun x => .int x.toInt32)
  | .ladd => o2L ls st (fun x y => .long (x + y))
  | .lsub => o2L ls st (fun x y => .long (x - y))
  | .lmul => o2L ls st (fun x y => .long (x * y))
  | .land => o2L ls st (fun x y => .long (x &&& y))
  | .lor => o2L ls st (fun x y => .long (x ||| y))
  | .lcmp => o2L ls st (fun x y => .int (lg_cmp x y))
  | .lshl => oLI ls st (fun x y => .long (x <<< (y.toInt64 &&& 63)))
  | .lshr => oLI ls st (fun x y => .long (x >>> (y.toInt64 &&& 63)))
  | .lushr => oLI ls st (fun x y => .long (x.toUInt64 >>> (y.toInt64.toUInt64 &&& Int64.toUInt64 63)).toInt64)
  | .dup => (match st with | .int x :: st => some (ls, .int x :: .int x :: st) | .ref x :: st => some (ls, .ref x :: .ref x :: st) | _ => none)
  | .pop => (match st with | .int _ :: st => some (ls, st) | .ref _ :: st => some (ls, st) | _ => none)
  | .dup2 => (match st with | .int y :: .int x :: st => some (ls, .int y :: .int x :: .int y :: .int x :: st) | .int y :: .ref x :: st => some (ls, .int y :: .ref x :: .int y :: .ref x :: st) | _ => none)
  | _ => none
/-- an instruction with memory, or with a guard -/
def hx (L : Nat) (xs : Nat → Int32) (i : Instr) (st : List Value) (M : mm_M) : Option (Prop × List Value × mm_M) :=
  match i with
  | .idiv => (match st with | .int y :: .int x :: st => some (¬ y = 0, .int (x / y) :: st, M) | _ => none)
  | .irem => (match st with | .int y :: .int x :: st => some (¬ y = 0, .int (x - x / y * y) :: st, M) | _ => none)
  | .ldiv => (match st with | .long y :: .long x :: st => some (¬ y = 0, .long (x / y) :: st, M) | _ => none)
  | .lrem => (match st with | .long y :: .long x :: st => some (¬ y = 0, .long (x - x / y * y) :: st, M) | _ => none)
  | .jsr v => some (True, .long (Int64.ofInt v) :: st, M)
  | .goto_w v => some (True, .int (Int32.ofInt v) :: st, M)
  | .jsr_w v => some (True, .int (Int32.ofInt v) :: st, M)
  | .ret n => some (n < 15, .retAddr n :: st, M)
  | .getstatic n => if n = 0 then some (True, .int 1 :: st, M) else some (n = 200 ∨ n = 201 ∨ n = 202, .retAddr n :: st, M)
  | .getfield n => (match st with
      | .ref a :: st => if 832 ≤ n then none else if ft (n / 64) (n % 64) = 1 then some (mK M a = n / 64, .long (mJ M a (n % 64)) :: st, M) else if ft (n / 64) (n % 64) = 2 then some (mK M a = n / 64, .ref (mR M a (n % 64)) :: st, M) else some (mK M a = n / 64, .int (mI M a (n % 64)) :: st, M)
      | .retAddr i :: st => if n = 1000 then some (i < 15, .retAddr (100 + i) :: st, M) else some (i < 15 ∧ n = 1001, .int 0 :: st, M)
      | _ => none)
  | .putfield n => (match st with
      | .int v :: .ref a :: st => if ft (n / 64) (n % 64) = 0 then some (mK M a = n / 64, st, sI M a (n % 64) v) else some (mK M a = n / 64 ∧ ft (n / 64) (n % 64) = 3 ∧ narrow .char (.int v) = .int v ∧ fits .char (.int v) = true, st, sI M a (n % 64) v)
      | .long v :: .ref a :: st => some (mK M a = n / 64 ∧ ft (n / 64) (n % 64) = 1, st, sJ M a (n % 64) v)
      | .ref v :: .ref a :: st => some (mK M a = n / 64 ∧ ft (n / 64) (n % 64) = 2 ∧ v ≠ 0, st, sR M a (n % 64) v)
      | _ => none)
  | .arraylength => (match st with
      | .ref a :: st => some (13 ≤ mK M a ∧ mK M a < 19, .int (Int32.ofNat (mN M a)) :: st, M)
      | .retAddr n :: st => if n = 300 then some (True, .int (Int32.ofNat L) :: st, M) else some (100 ≤ n ∧ n < 115, .int (Int32.ofNat (tN (n - 100))) :: st, M)
      | _ => none)
  | .iaload => (match st with
      | .int i :: .ref a :: st => some (mK M a = 14 ∧ vp_in i (mN M a), .int (mI M a i.toNatClampNeg) :: st, M)
      | .int i :: .retAddr n :: st => some ((n = 300 ∨ n = 200 ∨ n = 201) ∧ vp_in i (xlen L n), .int (xrow xs n i.toNatClampNeg) :: st, M)
      | _ => none)
  | .laload => (match st with | .int i :: .ref a :: st => some (mK M a = 15 ∧ vp_in i (mN M a), .long (mJ M a i.toNatClampNeg) :: st, M) | _ => none)
  | .caload => (match st with | .int i :: .ref a :: st => some (mK M a = 13 ∧ vp_in i (mN M a), .int (mI M a i.toNatClampNeg) :: st, M) | _ => none)
  | .baload => (match st with
      | .int i :: .ref a :: st => some (mK M a = 16 ∧ vp_in i (mN M a), .int (mI M a i.toNatClampNeg) :: st, M)
      | .int i :: .retAddr n :: st => some ((100 ≤ n ∧ n < 115) ∧ vp_in i (tN (n - 100)), .int (tB (n - 100) i.toNatClampNeg) :: st, M)
      | _ => none)
  | .aaload => (match st with | .int i :: .ref a :: st => some ((mK M a = 17 ∨ mK M a = 18) ∧ vp_in i (mN M a), .ref (mR M a i.toNatClampNeg) :: st, M) | _ => none)
  | .iastore => (match st with | .int v :: .int i :: .ref a :: st => some (mK M a = 14 ∧ vp_in i (mN M a), st, sI M a i.toNatClampNeg v) | _ => none)
  | .lastore => (match st with | .long v :: .int i :: .ref a :: st => some (mK M a = 15 ∧ vp_in i (mN M a), st, sJ M a i.toNatClampNeg v) | _ => none)
  | .castore => (match st with | .int v :: .int i :: .ref a :: st => some (mK M a = 13 ∧ vp_in i (mN M a), st, sI M a i.toNatClampNeg (vp_nar .char v)) | _ => none)
  | .bastore => (match st with | .int v :: .int i :: .ref a :: st => some (mK M a = 16 ∧ vp_in i (mN M a), st, sI M a i.toNatClampNeg (vp_nar .boolean v)) | _ => none)
  | .aastore => (match st with | .ref v :: .int i :: .ref a :: st => some (((mK M a = 17 ∧ mK M v = 0) ∨ (mK M a = 18 ∧ mK M v = 9)) ∧ vp_in i (mN M a), st, sR M a i.toNatClampNeg v) | _ => none)
  | .new n => some (n < 13, .ref (mS M) :: st, nw M n 0 (ftT n).length)
  | .newarray t => (match t, st with
      | .char, .int n :: st => some (¬ n < 0 ∧ n.toNatClampNeg ≤ 65536, .ref (mS M) :: st, nw M 13 n.toNatClampNeg n.toNatClampNeg)
      | .int, .int n :: st => some (¬ n < 0 ∧ n.toNatClampNeg ≤ 65536, .ref (mS M) :: st, nw M 14 n.toNatClampNeg n.toNatClampNeg)
      | .long, .int n :: st => some (¬ n < 0 ∧ n.toNatClampNeg ≤ 65536, .ref (mS M) :: st, nw M 15 n.toNatClampNeg n.toNatClampNeg)
      | .boolean, .int n :: st => some (¬ n < 0 ∧ n.toNatClampNeg ≤ 65536, .ref (mS M) :: st, nw M 16 n.toNatClampNeg n.toNatClampNeg)
      | _, _ => none)
  | .anewarray k => (match st with | .int n :: st => some ((k = 17 ∨ k = 18) ∧ ¬ n < 0 ∧ n.toNatClampNeg ≤ 65536, .ref (mS M) :: st, nw M k n.toNatClampNeg n.toNatClampNeg) | _ => none)
  | _ => none

def c0 (c : Jvm.ClassFile.Cond) (x : Int32) : Prop := match c with
  | .eq => x = 0 | .ne => ¬ x = 0 | .lt => x < 0 | .ge => 0 ≤ x | .gt => 0 < x | .le => x ≤ 0
def c2 (c : Jvm.ClassFile.Cond) (x y : Int32) : Prop := match c with
  | .eq => x = y | .ne => ¬ x = y | .lt => x < y | .ge => y ≤ x | .gt => y < x | .le => x ≤ y
noncomputable def ifP (c : Prop) (a b : Prop) : Prop := (c → a) ∧ (¬ c → b)
def tg (pc : Nat) (off : Int) : Nat := ((pc : Int) + off).toNat
/-- the kind of a method's object (99: none), how many values it takes -/
def cats (st : List Value) : Nat := (st.map fun v => v.category).sum
/-- a row of instructions: E the calls, K where it goes on, Q where it returns -/
def bl (L : Nat) (xs : Nat → Int32) (ac kd : Nat → Nat) (E : Nat → List Value → mm_M → Option Value → mm_M → Prop) (rt : Option FieldType) (K : Nat → List Value → List Value → mm_M → Prop) (Q : Option Value → mm_M → Prop) : List Instr → Nat → List Value → List Value → mm_M → Prop
  | [], pc, ls, st, M => K pc ls st M
  | i :: t, pc, ls, st, M => match i with
    | .goto off => K (tg pc off) ls st M
    | .ifCond c off => (match st with | .int x :: st => ifP (c0 c x) (K (tg pc off) ls st M) (bl L xs ac kd E rt K Q t (pc + 3) ls st M) | _ => False)
    | .if_icmp c off => (match st with | .int y :: .int x :: st => ifP (c2 c x y) (K (tg pc off) ls st M) (bl L xs ac kd E rt K Q t (pc + 3) ls st M) | _ => False)
    | .tableswitch d lo hi offs => (match st with | .int x :: st => ifP (x.toInt < lo ∨ hi < x.toInt) (K (tg pc d) ls st M) (∃ off, offs[(x.toInt - lo).toNat]? = some off ∧ K (tg pc off) ls st M) | _ => False)
    | .ireturn => (match st, rt with | [.int x], some ty => narrow ty (.int x) = .int x ∧ Q (some (.int x)) M | _, _ => False)
    | .lreturn => (match st, rt with | [.long x], some .long => Q (some (.long x)) M | _, _ => False)
    | .return_ => (match st, rt with | [], none => Q none M | _, _ => False)
    | .invokestatic j => (match j with
      | 900 => (match st with | .int n :: .int dp :: .ref a :: .int sp :: .ref a0 :: st => (mK M a0 = 14 ∧ mK M a = 14 ∧ ¬ sp < 0 ∧ ¬ dp < 0 ∧ ¬ n < 0 ∧ sp.toNatClampNeg + n.toNatClampNeg ≤ mN M a0 ∧ dp.toNatClampNeg + n.toNatClampNeg ≤ mN M a ∧ cats st ≤ 8) ∧ bl L xs ac kd E rt K Q t (pc + 3) ls st (rwI M a (va_cpy (mI M a0) (mI M a) sp.toNatClampNeg dp.toNatClampNeg n.toNatClampNeg)) | _ => False)
      | 901 => (match st with | .int n :: .int dp :: .ref a :: .int sp :: .ref a0 :: st => (mK M a0 = 15 ∧ mK M a = 15 ∧ ¬ sp < 0 ∧ ¬ dp < 0 ∧ ¬ n < 0 ∧ sp.toNatClampNeg + n.toNatClampNeg ≤ mN M a0 ∧ dp.toNatClampNeg + n.toNatClampNeg ≤ mN M a ∧ cats st ≤ 8) ∧ bl L xs ac kd E rt K Q t (pc + 3) ls st (rwJ M a (va_cpy (mJ M a0) (mJ M a) sp.toNatClampNeg dp.toNatClampNeg n.toNatClampNeg)) | _ => False)
      | j => (ac j ≤ st.length ∧ cats (st.drop (ac j)) ≤ 8) ∧ ∃ r M1, E j (st.take (ac j)).reverse M r M1 ∧ bl L xs ac kd E rt K Q t (pc + 3) ls (r.toList ++ st.drop (ac j)) M1)
    | .invokespecial j => (match j with
      | 900 => (match st with | .ref a :: st => (a ≠ 0 ∧ cats st ≤ 8) ∧ bl L xs ac kd E rt K Q t (pc + 3) ls st M | _ => False)
      | j => (match st.drop (ac j - 1) with | .ref a :: _ => a ≠ 0 | _ => False) ∧ (ac j ≤ st.length ∧ cats (st.drop (ac j)) ≤ 8) ∧ ∃ r M1, E j (st.take (ac j)).reverse M r M1 ∧ bl L xs ac kd E rt K Q t (pc + 3) ls (r.toList ++ st.drop (ac j)) M1)
    | .invokevirtual j => (match st.drop (ac j - 1) with | .ref a :: _ => mK M a = kd j ∧ kd j < 13 | .retAddr i :: _ => i < 15 ∧ kd j = 20 | _ => False) ∧ (ac j ≤ st.length ∧ cats (st.drop (ac j)) ≤ 8) ∧ ∃ r M1, E j (st.take (ac j)).reverse M r M1 ∧ bl L xs ac kd E rt K Q t (pc + 3) ls (r.toList ++ st.drop (ac j)) M1
    | i => (match sx i ls st with
      | some (ls', st') => bl L xs ac kd E rt K Q t (pc + iln i) ls' st' M
      | none => (match hx L xs i st M with
        | some (g, st', M') => g ∧ bl L xs ac kd E rt K Q t (pc + iln i) ls st' M'
        | none => False))

/-! from the small machine's values to the machine's -/
def ro (b a : Nat) : Option Nat := if a = 0 then none else some (b + a)
def cv (b : Nat) (xa : Nat → Option Nat) : Value → Value
  | .ref a => va_rf (ro b a)
  | .retAddr n => va_rf (xa n)
  | v => v
def pl (b : Nat) (xa : Nat → Option Nat) (ls : List Value) : List (Nat × Value) := (List.range ls.length).filterMap (fun i => match ls[i]? with | some v => if v = jk then none else some (i, cv b xa v) | none => none)
def fv (b : Nat) (M : mm_M) (kd a k : Nat) : Value := if ft kd k = 1 then .long (mJ M a k) else if ft kd k = 2 then va_rf (ro b (mR M a k)) else .int (mI M a k)
def av (b : Nat) (M : mm_M) (kd a j : Nat) : Value := if kd = 15 then .long (mJ M a j) else if kd = 17 ∨ kd = 18 then va_rf (ro b (mR M a j)) else .int (mI M a j)
/-- the heap holds the memory -/
def cok (D : va_G) (cy : Nat → ClassId) (b : Nat) (M : mm_M) (a : Nat) (H : Heap) : Prop := if mK M a < 13 then t_OB (b + a) (D.1 (mK M a)) (ftT (mK M a)).length (D.2 (mK M a)) H (fv b M (mK M a) a) else H[b + a]? = some (arrV (cy (mK M a)) (mN M a) (av b M (mK M a) a))
def WR (D : va_G) (cy : Nat → ClassId) (b : Nat) (M : mm_M) (H : Heap) : Prop := H.size = b + mS M ∧ ∀ a, mK M a < 19 → a ≠ 0 ∧ cok D cy b M a H
end
section
section
variable {L : Nat} {xs : Nat → Int32} {ac kd : Nat → Nat} {E : Nat → List Value → mm_M → Option Value → mm_M → Prop} {rt : Option FieldType} {Q : Option Value → mm_M → Prop}
theorem bl_ex {P : Nat → Nat → List Value → List Value → mm_M → Prop} : ∀ (t : List Instr) (pc : Nat) (ls st : List Value) (M : mm_M), bl L xs ac kd E rt (fun a b c d => ∃ n, P n a b c d) Q t pc ls st M → ∃ n, bl L xs ac kd E rt (P n) Q t pc ls st M := by
  intro t
  induction t with
  | nil => intro pc ls st M h; exact h
  | cons i t ih =>
    intro pc ls st M h
    unfold bl at h ⊢
    split at h
    · exact h
    · split at h
      · rename_i c off st' x st
        by_cases hc : c0 c x
        · obtain ⟨n, h1⟩ := h.1 hc
          exact ⟨n, fun _ => h1, fun z => absurd hc z⟩
        · obtain ⟨n, h1⟩ := ih _ _ _ _ (h.2 hc)
          exact ⟨n, fun z => absurd z hc, fun _ => h1⟩
      · exact h.elim
    · split at h
      · rename_i c off st' y x st
        by_cases hc : c2 c x y
        · obtain ⟨n, h1⟩ := h.1 hc
          exact ⟨n, fun _ => h1, fun z => absurd hc z⟩
        · obtain ⟨n, h1⟩ := ih _ _ _ _ (h.2 hc)
          exact ⟨n, fun z => absurd z hc, fun _ => h1⟩
      · exact h.elim
    · split at h
      · rename_i d lo hi offs st' x st
        by_cases hc : x.toInt < lo ∨ hi < x.toInt
        · obtain ⟨n, h1⟩ := h.1 hc
          exact ⟨n, fun _ => h1, fun z => absurd hc z⟩
        · obtain ⟨off, ho, n, h1⟩ := h.2 hc
          exact ⟨n, fun z => absurd z hc, fun _ => ⟨off, ho, h1⟩⟩
      · exact h.elim
    · split at h
      · exact ⟨0, h⟩
      · exact h.elim
    · split at h
      · exact ⟨0, h⟩
      · exact h.elim
    · split at h
      · exact ⟨0, h⟩
      · exact h.elim
    · split at h
      · split at h
        · obtain ⟨n, h1⟩ := ih _ _ _ _ h.2
          exact ⟨n, h.1, h1⟩
        · exact h.elim
      · split at h
        · obtain ⟨n, h1⟩ := ih _ _ _ _ h.2
          exact ⟨n, h.1, h1⟩
        · exact h.elim
      · obtain ⟨h0, r, M1, hE, h2⟩ := h
        obtain ⟨n, h1⟩ := ih _ _ _ _ h2
        exact ⟨n, h0, r, M1, hE, h1⟩
    · split at h
      · split at h
        · obtain ⟨n, h1⟩ := ih _ _ _ _ h.2
          exact ⟨n, h.1, h1⟩
        · exact h.elim
      · obtain ⟨g0, h0, r, M1, hE, h2⟩ := h
        obtain ⟨n, h1⟩ := ih _ _ _ _ h2
        exact ⟨n, g0, h0, r, M1, hE, h1⟩
    · obtain ⟨g0, h0, r, M1, hE, h2⟩ := h
      obtain ⟨n, h1⟩ := ih _ _ _ _ h2
      exact ⟨n, g0, h0, r, M1, hE, h1⟩
    · split at h
      · exact ih _ _ _ _ h
      · split at h
        · obtain ⟨n, h1⟩ := ih _ _ _ _ h.2
          exact ⟨n, h.1, h1⟩
        · exact h.elim
theorem hx_size {i : Instr} {st st' : List Value} {M M' : mm_M} {g : Prop} (h : hx L xs i st M = some (g, st', M')) : mS M ≤ mS M' ∧ mW M ≤ mW M' := by
  unfold hx at h
  repeat' split at h
  all_goals first | (cases h; exact ⟨Nat.le_refl _, Nat.le_refl _⟩) | (cases h; exact ⟨Nat.le_succ _, Nat.le_add_right _ _⟩) | cases h
/-- the cells and the places that a run has made don't grow less -/
theorem bl_size {K : Nat → List Value → List Value → mm_M → Prop} {z w : Nat} (hE : ∀ j a M r M1, E j a M r M1 → mS M ≤ mS M1 ∧ mW M ≤ mW M1) (hK : ∀ a b c M, K a b c M → mS M ≤ z ∧ mW M ≤ w) (hQ : ∀ v M, Q v M → mS M ≤ z ∧ mW M ≤ w) : ∀ (t : List Instr) (pc : Nat) (ls st : List Value) (M : mm_M), bl L xs ac kd E rt K Q t pc ls st M → mS M ≤ z ∧ mW M ≤ w := by
  have tr : ∀ {M M1 : mm_M}, mS M ≤ mS M1 ∧ mW M ≤ mW M1 → mS M1 ≤ z ∧ mW M1 ≤ w → mS M ≤ z ∧ mW M ≤ w := fun a b => ⟨Nat.le_trans a.1 b.1, Nat.le_trans a.2 b.2⟩
  intro t
  induction t with
  | nil => intro pc ls st M h; exact hK _ _ _ _ h
  | cons i t ih =>
    intro pc ls st M h
    unfold bl at h
    split at h
    · exact hK _ _ _ _ h
    · split at h
      · rename_i c off st' x st
        by_cases hc : c0 c x
        · exact hK _ _ _ _ (h.1 hc)
        · exact ih _ _ _ _ (h.2 hc)
      · exact h.elim
    · split at h
      · rename_i c off st' y x st
        by_cases hc : c2 c x y
        · exact hK _ _ _ _ (h.1 hc)
        · exact ih _ _ _ _ (h.2 hc)
      · exact h.elim
    · split at h
      · rename_i d lo hi offs st' x st
        by_cases hc : x.toInt < lo ∨ hi < x.toInt
        · exact hK _ _ _ _ (h.1 hc)
        · obtain ⟨off, ho, h1⟩ := h.2 hc
          exact hK _ _ _ _ h1
      · exact h.elim
    · split at h
      · exact hQ _ _ h.2
      · exact h.elim
    · split at h
      · exact hQ _ _ h
      · exact h.elim
    · split at h
      · exact hQ _ _ h
      · exact h.elim
    · split at h
      · split at h
        · have q := ih _ _ _ _ h.2
          exact q
        · exact h.elim
      · split at h
        · have q := ih _ _ _ _ h.2
          exact q
        · exact h.elim
      · obtain ⟨h0, r, M1, hE1, h2⟩ := h
        exact tr (hE _ _ _ _ _ hE1) (ih _ _ _ _ h2)
    · split at h
      · split at h
        · exact ih _ _ _ _ h.2
        · exact h.elim
      · obtain ⟨g0, h0, r, M1, hE1, h2⟩ := h
        exact tr (hE _ _ _ _ _ hE1) (ih _ _ _ _ h2)
    · obtain ⟨g0, h0, r, M1, hE1, h2⟩ := h
      exact tr (hE _ _ _ _ _ hE1) (ih _ _ _ _ h2)
    · split at h
      · exact ih _ _ _ _ h
      · split at h
        · rename_i hh
          exact tr (hx_size hh) (ih _ _ _ _ h.2)
        · exact h.elim
/-- so many rows of instructions -/
def XN (L : Nat) (xs : Nat → Int32) (ac kd : Nat → Nat) (E : Nat → List Value → mm_M → Option Value → mm_M → Prop) (rt : Option FieldType) (bs : List (Nat × List Instr)) (Q : Option Value → mm_M → Prop) : Nat → Nat → List Value → List Value → mm_M → Prop
  | 0, _, _, _, _ => False
  | n + 1, pc, ls, st, M => match bs.lookup pc with
    | some b => bl L xs ac kd E rt (XN L xs ac kd E rt bs Q n) Q b pc ls st M
    | none => False
def X (L : Nat) (xs : Nat → Int32) (ac kd : Nat → Nat) (E : Nat → List Value → mm_M → Option Value → mm_M → Prop) (rt : Option FieldType) (bs : List (Nat × List Instr)) (Q : Option Value → mm_M → Prop) (pc : Nat) (ls st : List Value) (M : mm_M) : Prop := ∃ n, XN L xs ac kd E rt bs Q n pc ls st M
theorem X_at {bs : List (Nat × List Instr)} {pc : Nat} {ls st : List Value} {M : mm_M} (b : List Instr) (hb : bs.lookup pc = some b) (h : bl L xs ac kd E rt (X L xs ac kd E rt bs Q) Q b pc ls st M) : X L xs ac kd E rt bs Q pc ls st M := by
  obtain ⟨n, hn⟩ := bl_ex b pc ls st M h
  refine ⟨n + 1, ?_⟩
  unfold XN
  rw [hb]
  exact hn
theorem XN_size {bs : List (Nat × List Instr)} {z w : Nat} (hE : ∀ j a M r M1, E j a M r M1 → mS M ≤ mS M1 ∧ mW M ≤ mW M1) (hQ : ∀ v M, Q v M → mS M ≤ z ∧ mW M ≤ w) : ∀ (n pc : Nat) (ls st : List Value) (M : mm_M), XN L xs ac kd E rt bs Q n pc ls st M → mS M ≤ z ∧ mW M ≤ w := by
  intro n
  induction n with
  | zero => intro pc ls st M h; exact h.elim
  | succ n ih =>
    intro pc ls st M h
    unfold XN at h
    split at h
    · exact bl_size hE ih hQ _ _ _ _ _ h
    · exact h.elim
/-- the arguments as locals -/
def lay : List Value → List Value
  | [] => []
  | .long x :: t => .long x :: jk :: lay t
  | .double x :: t => .double x :: jk :: lay t
  | v :: t => v :: lay t
def lay0 (a : List Value) (n : Nat) : List Value := lay a ++ List.replicate (n - (lay a).length) jk
/-- a call of depth d: P the methods (locals, answer, rows), EX what is told beside -/
def Ev (L : Nat) (xs : Nat → Int32) (ac kd : Nat → Nat) (P : Nat → Option (Nat × Option FieldType × List (Nat × List Instr))) (EX : Nat → Nat → List Value → mm_M → Option Value → mm_M → Prop) : Nat → Nat → List Value → mm_M → Option Value → mm_M → Prop
  | 0, _, _, _, _, _ => False
  | d + 1, j, a, M, r, M' => match P j with
    | some (nL, rt, bs) => (lay a).length ≤ nL ∧ X L xs ac kd (Ev L xs ac kd P EX d) rt bs (fun v M1 => v = r ∧ M1 = M') 0 (lay0 a nL) [] M
    | none => EX d j a M r M'
theorem Ev_size {P : Nat → Option (Nat × Option FieldType × List (Nat × List Instr))} {EX : Nat → Nat → List Value → mm_M → Option Value → mm_M → Prop} (hX : ∀ d j a M r M1, EX d j a M r M1 → mS M ≤ mS M1 ∧ mW M ≤ mW M1) : ∀ d j a M r M1, Ev L xs ac kd P EX d j a M r M1 → mS M ≤ mS M1 ∧ mW M ≤ mW M1 := by
  intro d
  induction d with
  | zero => intro j a M r M1 h; exact h.elim
  | succ d ih =>
    intro j a M r M1 h
    unfold Ev at h
    split at h
    · obtain ⟨-, n, h⟩ := h
      exact XN_size ih (fun v M2 hv => by rw [hv.2]; exact ⟨Nat.le_refl _, Nat.le_refl _⟩) n _ _ _ _ h
    · exact hX _ _ _ _ _ _ h
end
end
section
theorem cv_cat (b : Nat) (xa : Nat → Option Nat) (v : Value) : (cv b xa v).category = v.category := by
  have h : ∀ r : Option Nat, (va_rf r).category = 1 := fun r => by cases r <;> rfl
  cases v <;> first | rfl | exact h _
theorem pl_mem {b : Nat} {xa : Nat → Option Nat} {ls : List Value} {i : Nat} {w : Value} : (i, w) ∈ pl b xa ls ↔ ∃ v, ls[i]? = some v ∧ v ≠ jk ∧ w = cv b xa v := by
  unfold pl
  rw [List.mem_filterMap]
  constructor
  · rintro ⟨k, -, hk⟩
    split at hk
    · rename_i v hv
      split at hk
      · cases hk
      · rename_i hj
        cases hk
        exact ⟨v, hv, hj, rfl⟩
    · cases hk
  · rintro ⟨v, hv, hj, rfl⟩
    refine ⟨i, List.mem_range.mpr (List.getElem?_eq_some_iff.mp hv).1, ?_⟩
    rw [hv]
    show (if v = jk then none else some (i, cv b xa v)) = _
    rw [if_neg hj]
theorem pre_len (ls : List Value) (i : Nat) : (pre ls i).length = ls.length := by
  unfold pre
  split
  · rfl
  · split <;> simp
theorem pre_get {ls : List Value} {i k : Nat} {w : Value} (h : (pre ls i)[k]? = some w) (hw : w ≠ jk) : ls[k]? = some w ∧ ¬ (k + 1 = i ∧ w.category = 2) := by
  unfold pre at h
  split at h
  · exact ⟨h, fun z => by omega⟩
  · rename_i n
    split at h
    · rename_i x hx
      by_cases hk : n = k
      · subst hk
        rw [List.getElem?_set_self (List.getElem?_eq_some_iff.mp hx).1] at h
        exact absurd (Option.some.inj h).symm hw
      · rw [List.getElem?_set_ne hk] at h
        exact ⟨h, fun z => hk (by omega)⟩
    · rename_i x hx
      by_cases hk : n = k
      · subst hk
        rw [List.getElem?_set_self (List.getElem?_eq_some_iff.mp hx).1] at h
        exact absurd (Option.some.inj h).symm hw
      · rw [List.getElem?_set_ne hk] at h
        exact ⟨h, fun z => hk (by omega)⟩
    · rename_i h1 h2
      refine ⟨h, fun z => ?_⟩
      have hk : k = n := by omega
      subst hk
      cases w <;> first | (exact absurd h (h1 _)) | (exact absurd h (h2 _)) | (exact absurd z.2 (by simp [Value.category]))
theorem st1_len (ls : List Value) (i : Nat) (v : Value) : (st1 ls i v).length = ls.length := by
  unfold st1; rw [List.length_set, pre_len]
theorem st2_len (ls : List Value) (i : Nat) (v : Value) : (st2 ls i v).length = ls.length := by
  unfold st2; rw [List.length_set, List.length_set, pre_len]
theorem st1_has {b : Nat} {xa : Nat → Option Nat} {ls : List Value} {i : Nat} {v : Value} {rl : Array Slot} (h : lv_has rl ls.length ((i, cv b xa v) :: (pl b xa ls).filter (fun q => !(q.1 == i) && !(q.1 + 1 == i && q.2.category == 2)))) : lv_has rl (st1 ls i v).length (pl b xa (st1 ls i v)) := by
  refine ⟨by rw [st1_len]; exact h.1, h.2.1, fun q hq => ?_⟩
  obtain ⟨k, w'⟩ := q
  obtain ⟨w, hw, hj, rfl⟩ := pl_mem.mp hq
  apply h.2.2
  unfold st1 at hw
  by_cases hk : i = k
  · subst hk
    by_cases hl : i < (pre ls i).length
    · rw [List.getElem?_set_self hl] at hw
      rw [← Option.some.inj hw]
      exact List.mem_cons_self
    · rw [List.getElem?_eq_none (by rw [List.length_set]; omega)] at hw
      cases hw
  · rw [List.getElem?_set_ne hk] at hw
    obtain ⟨h1, h2⟩ := pre_get hw hj
    refine List.mem_cons_of_mem _ (List.mem_filter.mpr ⟨pl_mem.mpr ⟨w, h1, hj, rfl⟩, ?_⟩)
    have e1 : (k == i) = false := by simp; omega
    have e2 : (k + 1 == i && (cv b xa w).category == 2) = false := by
      rw [cv_cat]
      by_cases z : k + 1 = i
      · have : ¬ w.category = 2 := fun y => h2 ⟨z, y⟩
        simp [this]
      · simp [z]
    simp only [e1, e2]
    rfl
theorem st2_has {b : Nat} {xa : Nat → Option Nat} {ls : List Value} {i : Nat} {v : Value} {rl : Array Slot} (h : lv_has rl ls.length ((i, cv b xa v) :: (pl b xa ls).filter (fun q => !(q.1 == i) && (!(q.1 == i + 1) && !(q.1 + 1 == i && q.2.category == 2))))) : lv_has rl (st2 ls i v).length (pl b xa (st2 ls i v)) := by
  refine ⟨by rw [st2_len]; exact h.1, h.2.1, fun q hq => ?_⟩
  obtain ⟨k, w'⟩ := q
  obtain ⟨w, hw, hj, rfl⟩ := pl_mem.mp hq
  apply h.2.2
  unfold st2 at hw
  by_cases hk2 : i + 1 = k
  · subst hk2
    by_cases hl : i + 1 < ((pre ls i).set i v).length
    · rw [List.getElem?_set_self hl] at hw
      exact absurd (Option.some.inj hw).symm hj
    · rw [List.getElem?_eq_none (by rw [List.length_set]; omega)] at hw
      cases hw
  · rw [List.getElem?_set_ne hk2] at hw
    by_cases hk : i = k
    · subst hk
      by_cases hl : i < (pre ls i).length
      · rw [List.getElem?_set_self hl] at hw
        rw [← Option.some.inj hw]
        exact List.mem_cons_self
      · rw [List.getElem?_eq_none (by rw [List.length_set]; omega)] at hw
        cases hw
    · rw [List.getElem?_set_ne hk] at hw
      obtain ⟨h1, h2⟩ := pre_get hw hj
      refine List.mem_cons_of_mem _ (List.mem_filter.mpr ⟨pl_mem.mpr ⟨w, h1, hj, rfl⟩, ?_⟩)
      have e1 : (k == i) = false := by simp; omega
      have e3 : (k == i + 1) = false := by simp; omega
      have e2 : (k + 1 == i && (cv b xa w).category == 2) = false := by
        rw [cv_cat]
        by_cases z : k + 1 = i
        · have : ¬ w.category = 2 := fun y => h2 ⟨z, y⟩
          simp [this]
        · simp [z]
      simp only [e1, e2, e3]
      rfl
theorem pl_at {b : Nat} {xa : Nat → Option Nat} {ls : List Value} {rl : Array Slot} {n i : Nat} {v : Value} (h : lv_has rl n (pl b xa ls)) (hv : ls[i]? = some v) (hj : v ≠ jk) : rl[i]? = some (.val (cv b xa v)) := h.2.2 (i, cv b xa v) (pl_mem.mpr ⟨v, hv, hj, rfl⟩)
end
section
section
variable {p : Program} {l : Launch} {e : Env} {R : Room} {s : State} {m : MethodId} {args : Array Value} {below : List Frame} {meth : Method} {c : Code} {H : Heap} {locs : List Loc} {cells slots : Nat} {Qf : State → Prop} {cc : ByteArray} {pc : Nat} {rl : Array Slot} {b : Nat} {xa : Nat → Option Nat}
theorem rf_cat (b a : Nat) : (va_rf (ro b a)).category = 1 := by unfold ro; split <;> rfl
/-- loads and stores of references, null or not -/
theorem ald {ls : List Value} {i : Nat} {st : List Value} {x : Value} (hexec : p.tables.exec = Jvm.exec) (hb : c.code = cc) (hdg : decode cc pc = .ok (.aload i, 2)) (hl : rl[i]? = some (.val (cv b xa x))) (hx : (∃ a, x = .ref a) ∨ ∃ n, x = .retAddr n)
    (kk : W p l e R s m args below meth c H locs cells slots Qf (F0 m (pc + 2) rl (cv b xa x :: st))) : W p l e R s m args below meth c H locs cells slots Qf (F0 m pc rl st) := by
  rcases hx with ⟨a, rfl⟩ | ⟨n, rfl⟩
  · by_cases ha : a = 0
    · subst ha
      exact lv_aloadN hexec hb hdg hl kk
    · have e1 : cv b xa (.ref a) = .ref (b + a) := by show va_rf (ro b a) = _; unfold ro; rw [if_neg ha]; rfl
      rw [e1] at hl kk
      exact lv_aload hexec hb hdg hl kk
  · cases hn : xa n with
    | none =>
      have e1 : cv b xa (.retAddr n) = .null := by show va_rf (xa n) = _; rw [hn]; rfl
      rw [e1] at hl kk
      exact lv_aloadN hexec hb hdg hl kk
    | some q =>
      have e1 : cv b xa (.retAddr n) = .ref q := by show va_rf (xa n) = _; rw [hn]; rfl
      rw [e1] at hl kk
      exact lv_aload hexec hb hdg hl kk
theorem ald_n {ls : List Value} {k : Fin 4} {st : List Value} {x : Value} (hexec : p.tables.exec = Jvm.exec) (hb : c.code = cc) (hdg : decode cc pc = .ok (.aload_n k, 1)) (hl : rl[(k : Nat)]? = some (.val (cv b xa x))) (hx : (∃ a, x = .ref a) ∨ ∃ n, x = .retAddr n)
    (kk : W p l e R s m args below meth c H locs cells slots Qf (F0 m (pc + 1) rl (cv b xa x :: st))) : W p l e R s m args below meth c H locs cells slots Qf (F0 m pc rl st) := by
  rcases hx with ⟨a, rfl⟩ | ⟨n, rfl⟩
  · by_cases ha : a = 0
    · subst ha
      exact lv_aload_nN hexec hb hdg rfl hl kk
    · have e1 : cv b xa (.ref a) = .ref (b + a) := by show va_rf (ro b a) = _; unfold ro; rw [if_neg ha]; rfl
      rw [e1] at hl kk
      exact lv_aload_n hexec hb hdg rfl hl kk
  · cases hn : xa n with
    | none =>
      have e1 : cv b xa (.retAddr n) = .null := by show va_rf (xa n) = _; rw [hn]; rfl
      rw [e1] at hl kk
      exact lv_aload_nN hexec hb hdg rfl hl kk
    | some q =>
      have e1 : cv b xa (.retAddr n) = .ref q := by show va_rf (xa n) = _; rw [hn]; rfl
      rw [e1] at hl kk
      exact lv_aload_n hexec hb hdg rfl hl kk
theorem asto {i nL : Nat} {a : Nat} {st : List Value} {lv : List (Nat × Value)} (hexec : p.tables.exec = Jvm.exec) (hb : c.code = cc) (hdg : decode cc pc = .ok (.astore i, 2)) (h : lv_has rl nL lv) (hn : i < nL)
    (kk : ∀ rl' : Array Slot, lv_has rl' nL ((i, cv b xa (.ref a)) :: lv.filter (fun q => !(q.1 == i) && !(q.1 + 1 == i && q.2.category == 2))) → W p l e R s m args below meth c H locs cells slots Qf (F0 m (pc + 2) rl' st)) : W p l e R s m args below meth c H locs cells slots Qf (F0 m pc rl (cv b xa (.ref a) :: st)) := by
  by_cases ha : a = 0
  · subst ha
    exact lv_astoreN hexec hb hdg h hn rfl kk
  · have e1 : cv b xa (.ref a) = .ref (b + a) := by show va_rf (ro b a) = _; unfold ro; rw [if_neg ha]; rfl
    rw [e1] at kk ⊢
    exact lv_astore hexec hb hdg h hn rfl kk
theorem asto_n {k : Fin 4} {nL : Nat} {a : Nat} {st : List Value} {lv : List (Nat × Value)} (hexec : p.tables.exec = Jvm.exec) (hb : c.code = cc) (hdg : decode cc pc = .ok (.astore_n k, 1)) (h : lv_has rl nL lv) (hn : (k : Nat) < nL)
    (kk : ∀ rl' : Array Slot, lv_has rl' nL (((k : Nat), cv b xa (.ref a)) :: lv.filter (fun q => !(q.1 == (k : Nat)) && !(q.1 + 1 == (k : Nat) && q.2.category == 2))) → W p l e R s m args below meth c H locs cells slots Qf (F0 m (pc + 1) rl' st)) : W p l e R s m args below meth c H locs cells slots Qf (F0 m pc rl (cv b xa (.ref a) :: st)) := by
  by_cases ha : a = 0
  · subst ha
    exact lv_astore_nN hexec hb hdg rfl h hn rfl kk
  · have e1 : cv b xa (.ref a) = .ref (b + a) := by show va_rf (ro b a) = _; unfold ro; rw [if_neg ha]; rfl
    rw [e1] at kk ⊢
    exact lv_astore_n hexec hb hdg rfl h hn rfl kk
theorem sx_W {i : Instr} {ls st ls' st' : List Value} (hexec : p.tables.exec = Jvm.exec) (hb : c.code = cc) (hsx : sx i ls st = some (ls', st')) (hdg : decode cc pc = .ok (i, iln i)) (hL : lv_has rl ls.length (pl b xa ls))
    (kk : ∀ rl' : Array Slot, lv_has rl' ls'.length (pl b xa ls') → W p l e R s m args below meth c H locs cells slots Qf (F0 m (pc + iln i) rl' (st'.map (cv b xa)))) : W p l e R s m args below meth c H locs cells slots Qf (F0 m pc rl (st.map (cv b xa))) := by
  unfold sx at hsx
  split at hsx
  · unfold ldI at hsx
    split at hsx
    · rename_i x hx
      cases hsx
      exact lv_iload hexec hb hdg (pl_at hL hx (by intro z; cases z)) (kk rl hL)
    · cases hsx
  · unfold ldI at hsx
    split at hsx
    · rename_i x hx
      cases hsx
      exact lv_iload_n hexec hb hdg rfl (pl_at hL hx (by intro z; cases z)) (kk rl hL)
    · cases hsx
  · unfold ldL at hsx
    split at hsx
    · rename_i x hx
      cases hsx
      exact lv_lload hexec hb hdg (pl_at hL hx (by intro z; cases z)) (kk rl hL)
    · cases hsx
  · unfold ldL at hsx
    split at hsx
    · rename_i x hx
      cases hsx
      exact lv_lload_n hexec hb hdg rfl (pl_at hL hx (by intro z; cases z)) (kk rl hL)
    · cases hsx
  · unfold ldA at hsx
    split at hsx
    · rename_i x hx
      cases hsx
      exact ald (ls := ls) hexec hb hdg (pl_at hL hx (by intro z; cases z)) (Or.inl ⟨_, rfl⟩) (kk rl hL)
    · rename_i n hx
      cases hsx
      exact ald (ls := ls) hexec hb hdg (pl_at hL hx (by intro z; cases z)) (Or.inr ⟨_, rfl⟩) (kk rl hL)
    · cases hsx
  · unfold ldA at hsx
    split at hsx
    · rename_i x hx
      cases hsx
      exact ald_n (ls := ls) hexec hb hdg (pl_at hL hx (by intro z; cases z)) (Or.inl ⟨_, rfl⟩) (kk rl hL)
    · rename_i n hx
      cases hsx
      exact ald_n (ls := ls) hexec hb hdg (pl_at hL hx (by intro z; cases z)) (Or.inr ⟨_, rfl⟩) (kk rl hL)
    · cases hsx
  · unfold soI at hsx
    split at hsx
    · split at hsx
      · rename_i hlt
        cases hsx
        exact lv_istore hexec hb hdg hL hlt rfl (fun rl' h => kk rl' (st1_has (b := b) (xa := xa) h))
      · cases hsx
    · cases hsx
  · unfold soI at hsx
    split at hsx
    · split at hsx
      · rename_i hlt
        cases hsx
        exact lv_istore_n hexec hb hdg rfl hL hlt rfl (fun rl' h => kk rl' (st1_has (b := b) (xa := xa) h))
      · cases hsx
    · cases hsx
  · unfold soL at hsx
    split at hsx
    · split at hsx
      · rename_i hlt
        cases hsx
        exact lv_lstore hexec hb hdg hL hlt rfl (fun rl' h => kk rl' (st2_has (b := b) (xa := xa) h))
      · cases hsx
    · cases hsx
  · unfold soL at hsx
    split at hsx
    · split at hsx
      · rename_i hlt
        cases hsx
        exact lv_lstore_n hexec hb hdg rfl hL hlt rfl (fun rl' h => kk rl' (st2_has (b := b) (xa := xa) h))
      · cases hsx
    · cases hsx
  · unfold soA at hsx
    split at hsx
    · split at hsx
      · rename_i hlt
        cases hsx
        exact asto hexec hb hdg hL hlt (fun rl' h => kk rl' (st1_has (b := b) (xa := xa) h))
      · cases hsx
    · cases hsx
  · unfold soA at hsx
    split at hsx
    · split at hsx
      · rename_i hlt
        cases hsx
        exact asto_n hexec hb hdg hL hlt (fun rl' h => kk rl' (st1_has (b := b) (xa := xa) h))
      · cases hsx
    · cases hsx
  · cases hsx
    exact lv_iconst hexec hb hdg rfl (kk rl hL)
  · cases hsx
    exact lv_bipush hexec hb hdg rfl (kk rl hL)
  · cases hsx
    exact lv_sipush hexec hb hdg rfl (kk rl hL)
  · cases hsx
    exact lv_lconst hexec hb hdg rfl (kk rl hL)
  · split at hsx
    · rename_i n k _ x hx
      cases hsx
      have hm : (n, cv b xa (.int x)) ∈ pl b xa ls := pl_mem.mpr ⟨.int x, hx, (by intro z; cases z), rfl⟩
      obtain ⟨q, hq⟩ := List.getElem?_of_mem hm
      exact lv_iinc hexec hb hdg hL (k := q) hq rfl (List.getElem?_eq_some_iff.mp hx).1 rfl (fun rl' h => kk rl' (st1_has (b := b) (xa := xa) h))
    · cases hsx
  · unfold o2I at hsx
    split at hsx
    · cases hsx
      exact lv_iadd hexec hb hdg (kk rl hL)
    · cases hsx
  · unfold o2I at hsx
    split at hsx
    · cases hsx
      exact lv_isub hexec hb hdg (kk rl hL)
    · cases hsx
  · unfold o2I at hsx
    split at hsx
    · cases hsx
      exact lv_imul hexec hb hdg (kk rl hL)
    · cases hsx
  · unfold o2I at hsx
    split at hsx
    · cases hsx
      exact lv_iand hexec hb hdg (kk rl hL)
    · cases hsx
  · unfold o2I at hsx
    split at hsx
    · cases hsx
      exact lv_ior hexec hb hdg (kk rl hL)
    · cases hsx
  · unfold o2I at hsx
    split at hsx
    · cases hsx
      exact lv_ixor hexec hb hdg (kk rl hL)
    · cases hsx
  · unfold o2I at hsx
    split at hsx
    · cases hsx
      exact lv_ishl hexec hb hdg (kk rl hL)
    · cases hsx
  · unfold o2I at hsx
    split at hsx
    · cases hsx
      exact lv_ishr hexec hb hdg (kk rl hL)
    · cases hsx
  · unfold o2I at hsx
    split at hsx
    · cases hsx
      exact lv_iushr hexec hb hdg rfl (kk rl hL)
    · cases hsx
  · unfold o1I at hsx
    split at hsx
    · cases hsx
      exact lv_ineg hexec hb hdg (kk rl hL)
    · cases hsx
  · unfold o1I at hsx
    split at hsx
    · cases hsx
      exact lv_i2l hexec hb hdg rfl (kk rl hL)
    · cases hsx
  · unfold o1I at hsx
    split at hsx
    · cases hsx
      exact lv_i2c hexec hb hdg rfl (kk rl hL)
    · cases hsx
  · unfold o1I at hsx
    split at hsx
    · cases hsx
      exact lv_i2b hexec hb hdg rfl (kk rl hL)
    · cases hsx
  · unfold o1L at hsx
    split at hsx
    · cases hsx
      exact lv_l2i hexec hb hdg rfl (kk rl hL)
    · cases hsx
  · unfold o2L at hsx
    split at hsx
    · cases hsx
      exact lv_ladd hexec hb hdg (kk rl hL)
    · cases hsx
  · unfold o2L at hsx
    split at hsx
    · cases hsx
      exact lv_lsub hexec hb hdg (kk rl hL)
    · cases hsx
  · unfold o2L at hsx
    split at hsx
    · cases hsx
      exact lv_lmul hexec hb hdg (kk rl hL)
    · cases hsx
  · unfold o2L at hsx
    split at hsx
    · cases hsx
      exact lv_land hexec hb hdg (kk rl hL)
    · cases hsx
  · unfold o2L at hsx
    split at hsx
    · cases hsx
      exact lv_lor hexec hb hdg (kk rl hL)
    · cases hsx
  · unfold o2L at hsx
    split at hsx
    · cases hsx
      exact W.lcmp hexec hb hdg (kk rl hL)
    · cases hsx
  · unfold oLI at hsx
    split at hsx
    · cases hsx
      exact lv_lshl hexec hb hdg rfl (kk rl hL)
    · cases hsx
  · unfold oLI at hsx
    split at hsx
    · cases hsx
      exact lv_lshr hexec hb hdg rfl (kk rl hL)
    · cases hsx
  · unfold oLI at hsx
    split at hsx
    · cases hsx
      exact lv_lushr hexec hb hdg rfl (kk rl hL)
    · cases hsx
  · split at hsx
    · cases hsx
      exact lv_dup hexec hb hdg rfl (kk rl hL)
    · cases hsx
      exact lv_dup hexec hb hdg (rf_cat _ _) (kk rl hL)
    · cases hsx
  · split at hsx
    · cases hsx
      exact lv_pop hexec hb hdg rfl (kk rl hL)
    · cases hsx
      exact lv_pop hexec hb hdg (rf_cat _ _) (kk rl hL)
    · cases hsx
  · split at hsx
    · cases hsx
      exact lv_dup2_11 hexec hb hdg rfl rfl (kk rl hL)
    · cases hsx
      exact lv_dup2_11 hexec hb hdg rfl (rf_cat _ _) (kk rl hL)
    · cases hsx
  · cases hsx
end
end
section
/-! what a method finds around it -/
theorem cL_at : ∀ ci, ci < 13 → cL[ci]? = some (on ci, cT ci, (ftT ci).length) := by
  intro ci h
  have h : ci = 0 ∨ ci = 1 ∨ ci = 2 ∨ ci = 3 ∨ ci = 4 ∨ ci = 5 ∨ ci = 6 ∨ ci = 7 ∨ ci = 8 ∨ ci = 9 ∨ ci = 10 ∨ ci = 11 ∨ ci = 12 := by omega
  rcases h with rfl | rfl | rfl | rfl | rfl | rfl | rfl | rfl | rfl | rfl | rfl | rfl | rfl <;> rfl
theorem LY_all : ∀ ci, ci < 13 → ∀ k, k < (ftT ci).length → ∃ q ∈ LY, q.1 = (ci, k) := by decide +kernel
theorem cL_ws {ci : Nat} (h : ci < 13) : ∀ w ∈ u_ws (on ci) (cT ci) (ftT ci).length, w ∈ gT := by
  intro w hw
  obtain ⟨k, hk, rfl⟩ := List.mem_map.mp hw
  obtain ⟨q, hq, e⟩ := LY_all ci h k (List.mem_range.mp hk)
  have h1 := LY_ok q hq
  rw [e] at h1
  exact h1
theorem cL_nm : ∀ ci, ci < 13 → ∀ a, a < (ftT ci).length → ∀ b, b < (ftT ci).length → a ≠ b → (cT ci a).2.1 ≠ (cT ci b).2.1 := by decide +kernel
theorem cL_ty : ∀ ci, ci < 13 → ∀ k, k < (ftT ci).length → parseFieldDescriptor (cT ci k).2.2.1 = some (cY ci k) := by decide +kernel
def isR : FieldType → Bool
  | .object _ => true
  | .array _ => true
  | _ => false
theorem cL_ft : ∀ ci, ci < 13 → ∀ k, k < (ftT ci).length → (ft ci k = 0 ∧ cY ci k = .int) ∨ (ft ci k = 1 ∧ cY ci k = .long) ∨ (ft ci k = 2 ∧ isR (cY ci k) = true) ∨ (ft ci k = 3 ∧ cY ci k = .char) := by decide +kernel
def AA (b : Nat) : Nat → Prop := fun q => b < q
def tyL (cy : Nat → ClassId) : List (ClassId × FieldType) := [(cy 13, .char), (cy 14, .int), (cy 15, .long), (cy 16, .boolean), (cy 17, .object "ShoeOrchard$Felt"), (cy 18, .object "ShoeOrchard$State")]
def xa0 (xo : Nat → Option Nat) (n : Nat) : Nat := (xo n).getD 0
def stxt (i : Nat) : String := String.ofList ((tS.getD i []).map (fun c => Char.ofNat c.toInt.toNat))
/-- what stands outside, and the words that are carried by themselves -/
def EXT (xo : Nat → Option Nat) (L : Nat) (xs : Nat → Int32) (b : Nat) (U : State) (H : Heap) : Prop :=
  (∀ q ∈ MLN, va_Nw (fMLN q.1) U) ∧ (∀ q ∈ GN, va_Nw (fGN q.1) U) ∧ (va_AO "ShoeOrchard$Felt" U ∧ va_AO "ShoeOrchard$State" U) ∧
  (∀ q ∈ SK, vk_R (on q.1.1) q.1.2.1 (stxt q.1.2.2) (xa0 xo q.1.2.2) U) ∧
  vk_S 15 (tS.map List.length) tS (fun i => xa0 xo i) (fun i => xa0 xo (100 + i)) (AA b) U H ∧
  va_Z "java/lang/String" "COMPACT_STRINGS" "Z" (.int 1) (AA b) U H ∧
  (∀ n, n = 200 ∨ n = 201 ∨ n = 202 → va_Z (gs n).1 (gs n).2.1 (gs n).2.2 (va_rf (xo n)) (AA b) U H) ∧
  (∀ n, n = 200 ∨ n = 201 → va_T .int (xa0 xo n) 4 (fun j => .int (xrow xs n j)) (AA b) U H) ∧
  (va_X (xa0 xo 300) L xs U H ∧ xa0 xo 300 < H.size ∧ ¬ AA b (xa0 xo 300)) ∧
  (∀ n, n < 15 ∨ (100 ≤ n ∧ n < 115) ∨ n = 200 ∨ n = 201 ∨ n = 300 → xo n = some (xa0 xo n))
theorem EXT.to {xo : Nat → Option Nat} {L : Nat} {xs : Nat → Int32} {b : Nat} {U U' : State} {H H' : Heap} (hW : U.WarmedH U'.vm) (hz : H.size ≤ H'.size) (hq : ∀ a, a < H.size → ¬ AA b a → H'[a]? = H[a]?) (h : EXT xo L xs b U H) : EXT xo L xs b U' H' := by
  obtain ⟨h1, h2, h3, h4, h5, h6, h7, h8, h9, h10⟩ := h
  refine ⟨fun q hq => va_Nw.warmM hW (h1 q hq), fun q hq => va_Nw.warmF hW (h2 q hq), ⟨h3.1.moved hW.alike, h3.2.moved hW.alike⟩, fun q hq => (h4 q hq).warm hW, (h5.kept hq).moved hW.alike, (h6.kept hq).moved hW.alike, fun n hn => ((h7 n hn).kept hq).moved hW.alike, fun n hn => ((h8 n hn).kept hq).moved hW.alike, ⟨(h9.1.kept (hq _ h9.2.1 h9.2.2)).moved hW.alike, Nat.lt_of_lt_of_le h9.2.1 hz, h9.2.2⟩, h10⟩
theorem EXT.vm {xo : Nat → Option Nat} {L : Nat} {xs : Nat → Int32} {b : Nat} {U U' : State} {H : Heap} (hv : U'.vm = U.vm) (h : EXT xo L xs b U H) : EXT xo L xs b U' H := h.to (by rw [hv]; exact State.WarmedH.refl U) (Nat.le_refl _) (fun _ _ _ => rfl)
def CX (p : Program) (s : State) (m : MethodId) (args : Array Value) (c : Code) (cc : ByteArray) (o nL : Nat) (D : va_G) (cy : Nat → ClassId) (b : Nat) (xo : Nat → Option Nat) (L : Nat) (xs : Nat → Int32) : Prop :=
  p.tables.exec = Jvm.exec ∧ c.code = cc ∧ c.maxLocals = nL ∧ s.vm.findClass (on o) = some m.cls ∧ (∀ w ∈ gT, w.before args s = true) ∧ va_K D cL (tyL cy) s ∧ EXT xo L xs b s s.heap ∧ b < s.heap.size
theorem cv_x {b : Nat} {xo : Nat → Option Nat} {n : Nat} (h : xo n = some (xa0 xo n)) : cv b xo (.retAddr n) = .ref (xa0 xo n) := by
  show va_rf (xo n) = _
  rw [h]
  rfl
theorem cv_r {b : Nat} {xo : Nat → Option Nat} {a : Nat} (h : a ≠ 0) : cv b xo (.ref a) = .ref (b + a) := by
  show va_rf (ro b a) = _
  unfold ro
  rw [if_neg h]
  rfl
section
variable {D : va_G} {cy : Nat → ClassId} {b : Nat} {M M' : mm_M} {H H1 : Heap}
theorem cok_lt {a : Nat} (h : cok D cy b M a H) : b + a < H.size := by
  unfold cok at h
  split at h
  · obtain ⟨cell, h1, -⟩ := h
    exact (Array.getElem?_eq_some_iff.mp h1).1
  · exact (Array.getElem?_eq_some_iff.mp h).1
theorem WR.lt {a : Nat} (h : WR D cy b M H) (hk : mK M a < 19) : a < mS M := by
  have := cok_lt (h.2 a hk).2
  have := h.1
  omega
theorem cok_kept {a : Nat} (h : cok D cy b M a H) (hq : H1[b + a]? = H[b + a]?) (hK : mK M' a = mK M a) (hN : mN M' a = mN M a) (hI : mI M' a = mI M a) (hJ : mJ M' a = mJ M a) (hR : mR M' a = mR M a) : cok D cy b M' a H1 := by
  unfold cok at h ⊢
  rw [hK]
  split at h
  · rename_i hk
    rw [if_pos hk]
    refine (h.kept hq).to (fun k _ => ?_)
    unfold fv
    rw [hI, hJ, hR]
  · rename_i hk
    rw [if_neg hk, hq, h, hN]
    congr 2
    funext j
    unfold av
    rw [hI, hJ, hR]
theorem WR_set {a : Nat} (h : WR D cy b M H) (hK : ∀ x, mK M' x = mK M x) (hN : ∀ x, mN M' x = mN M x) (hS : mS M' = mS M) (hI : ∀ x, x ≠ a → mI M' x = mI M x) (hJ : ∀ x, x ≠ a → mJ M' x = mJ M x) (hR : ∀ x, x ≠ a → mR M' x = mR M x) (z : H1.size = H.size) (oq : ∀ q, q ≠ b + a → H1[q]? = H[q]?) (hc : cok D cy b M' a H1) : WR D cy b M' H1 := by
  refine ⟨by rw [z, hS]; exact h.1, fun x hx => ?_⟩
  rw [hK] at hx
  refine ⟨(h.2 x hx).1, ?_⟩
  by_cases e : x = a
  · rw [e]; exact hc
  · exact cok_kept (h.2 x hx).2 (oq _ (by omega)) (hK x) (hN x) (hI x e) (hJ x e) (hR x e)
theorem WR_new {kd n w : Nat} (h : WR D cy b M H) (hp : 0 < mS M) (z : H1.size = H.size + 1) (oq : ∀ q, q < H.size → H1[q]? = H[q]?) (hc : cok D cy b (nw M kd n w) (mS M) H1) : WR D cy b (nw M kd n w) H1 := by
  refine ⟨by rw [z, h.1]; show _ = b + (mS M + 1); omega, fun x hx => ?_⟩
  by_cases e : x = mS M
  · rw [e]
    exact ⟨by omega, hc⟩
  · have hk : mK (nw M kd n w) x = mK M x := by show (if x = mS M then kd else M.1 x) = _; rw [if_neg e]; rfl
    rw [hk] at hx
    have hl := cok_lt (h.2 x hx).2
    refine ⟨(h.2 x hx).1, cok_kept (h.2 x hx).2 (oq _ hl) hk ?_ ?_ ?_ ?_⟩
    · show (if x = mS M then n else M.2.1 x) = _; rw [if_neg e]; rfl
    · show (if x = mS M then (fun _ => 0) else M.2.2.1 x) = _; rw [if_neg e]; rfl
    · show (if x = mS M then (fun _ => 0) else M.2.2.2.1 x) = _; rw [if_neg e]; rfl
    · show (if x = mS M then (fun _ => 0) else M.2.2.2.2.1 x) = _; rw [if_neg e]; rfl
theorem WR.ob {a ci : Nat} (h : WR D cy b M H) (hk : mK M a = ci) (hc : ci < 13) : a ≠ 0 ∧ t_OB (b + a) (D.1 ci) (ftT ci).length (D.2 ci) H (fv b M ci a) := by
  subst hk
  obtain ⟨h1, h2⟩ := h.2 a (by omega)
  unfold cok at h2
  rw [if_pos hc] at h2
  exact ⟨h1, h2⟩
theorem WR.ar {a ci : Nat} (h : WR D cy b M H) (hk : mK M a = ci) (hc : ¬ ci < 13) (hc2 : ci < 19) : a ≠ 0 ∧ H[b + a]? = some (arrV (cy ci) (mN M a) (av b M ci a)) := by
  subst hk
  obtain ⟨h1, h2⟩ := h.2 a hc2
  unfold cok at h2
  rw [if_neg hc] at h2
  exact ⟨h1, h2⟩
theorem cok_ob {a ci : Nat} (hk : mK M a = ci) (hc : ci < 13) (h : t_OB (b + a) (D.1 ci) (ftT ci).length (D.2 ci) H (fv b M ci a)) : cok D cy b M a H := by
  subst hk
  unfold cok
  rw [if_pos hc]
  exact h
theorem cok_ar {a ci : Nat} (hk : mK M a = ci) (hc : ¬ ci < 13) (h : H[b + a]? = some (arrV (cy ci) (mN M a) (av b M ci a))) : cok D cy b M a H := by
  subst hk
  unfold cok
  rw [if_neg hc]
  exact h
end
end
section
section
variable {p : Program} {l : Launch} {e : Env} {R : Room} {s : State} {m : MethodId} {args : Array Value} {below : List Frame} {meth : Method} {c : Code} {H : Heap} {locs : List Loc} {cells slots : Nat} {Qf : State → Prop} {cc : ByteArray} {pc : Nat} {rl : Array Slot} {o nL : Nat} {D : va_G} {cy : Nat → ClassId} {b : Nat} {xo : Nat → Option Nat} {L : Nat} {xs : Nat → Int32} {M : mm_M} {st : List Value}
/-- a field is read -/
theorem r_get {a ci k x : Nat} (hC : CX p s m args c cc o nL D cy b xo L xs) (hW : WR D cy b M H) (hk : mK M a = ci) (hci : ci < 13) (hkk : k < (ftT ci).length) (hl : Cond.fieldLink (on o) x (cT ci k).1 (cT ci k).2.1 (cT ci k).2.2.1 ∈ gT) (hdg : decode cc pc = .ok (.getfield x, 3))
    (kk : W p l e R s m args below meth c H locs cells slots Qf (F0 m (pc + 3) rl (fv b M ci a k :: st))) : W p l e R s m args below meth c H locs cells slots Qf (F0 m pc rl (cv b xo (.ref a) :: st)) := by
  obtain ⟨hx, hb, hml, hown, hts, hK, hE, hbs⟩ := hC
  obtain ⟨ha, hOB⟩ := hW.ob hk hci
  rw [cv_r ha]
  refine va_get (C := on ci) (T := cT ci) (N := (ftT ci).length) (ci := ci) (ws := [(b + a, .inr (ci, (List.range (ftT ci).length).map (fv b M ci a)))]) hx hb hts (cL_ws hci) hown hK ?_ 0 rfl (cL_at ci hci) k hkk (hts _ hl) (fun _ h => h) (v := fv b M ci a k) ?_ hdg kk
  · intro j q hq
    cases j with
    | zero =>
      cases hq
      exact ⟨_, cL_at ci hci, hOB.to (fun i hi => by simp [vp_V, hi])⟩
    | succ j => simp at hq
  · simp [hkk]
/-- a field is written -/
theorem r_put {a ci k x : Nat} {v : Value} (hC : CX p s m args c cc o nL D cy b xo L xs) (hW : WR D cy b M H) (hS : va_S (AA b) s.heap H locs) (hk : mK M a = ci) (hci : ci < 13) (hkk : k < (ftT ci).length) (hl : Cond.fieldLink (on o) x (cT ci k).1 (cT ci k).2.1 (cT ci k).2.2.1 ∈ gT) (hfin : (cT ci k).2.2.2 = false ∨ (meth.name = "<init>" ∧ (cT ci k).1 = on o)) (hn : narrow (cY ci k) v = v) (hfit : fits (cY ci k) v = true) (hdg : decode cc pc = .ok (.putfield x, 3))
    (kk : ∀ (H1 : Heap) (locs1 : List Loc), H1.size = H.size → (∀ q, q ≠ b + a → H1[q]? = H[q]?) → t_OB (b + a) (D.1 ci) (ftT ci).length (D.2 ci) H1 (updV (fv b M ci a) k v) → va_S (AA b) s.heap H1 locs1 → W p l e R s m args below meth c H1 locs1 cells slots Qf (F0 m (pc + 3) rl st)) : W p l e R s m args below meth c H locs cells slots Qf (F0 m pc rl (v :: cv b xo (.ref a) :: st)) := by
  obtain ⟨hx, hb, hml, hown, hts, hK, hE, hbs⟩ := hC
  obtain ⟨ha, cell, q1, q2, q3, q4⟩ := hW.ob hk hci
  rw [cv_r ha]
  have hap := va_apart (own := on o) hts (cL_ws hci) (cY ci) (cL_ty ci hci) (cL_nm ci hci) hK (cL_at ci hci)
  obtain ⟨hSl, hfc, kC, hkC, hkind⟩ := hK.1 ci _ (cL_at ci hci)
  obtain ⟨cf, kf, fi, f, hi, hsl⟩ := hSl k hkk
  have hst := (u_facts hfc hkC (u_lays hts (cL_ws hci) hkk) hi).1
  have hd := cL_ty ci hci k hkk
  have hlay := hts _ (cL_ws hci _ (u_in_lay hkk))
  unfold u_lay at hlay
  by_cases hf : (cT ci k).2.2.2 = true
  · rcases hfin with h | ⟨hin, hdecl⟩
    · rw [hf] at h; cases h
    rw [if_pos hf] at hlay
    have hcf : m.cls = cf := by
      obtain ⟨_, _, c', _, _, _, -, -, hf', -, -, -, hown2, -⟩ := Cond.laysFinal_spec hlay
      have e1 : c' = cf := by have := hi.symm.trans hf'; simp at this; exact this.1.symm
      rw [hdecl] at hown2
      rw [← e1]; exact Option.some.inj (hown.symm.trans hown2)
    have h6 := u_fits hfc hkC hkind (Or.inr hlay) hi hd hn hfit
    refine W.putFinK hx hb hown (hts _ hl) hi hst hcf hin (by rw [q2]; exact h6) q1 q3 (by rw [hsl]; exact k2_hasslot (q4 k hkk)) rfl rfl hdg fun H' e1 e2 e3 => ?_
    rw [hsl] at e1 ⊢
    exact kk H' _ e2 e3 ⟨_, e1, q2, q3, t_set q4 hap hkk v⟩ (hS.put e2 e3 (show b < b + a by omega))
  · rw [if_neg hf] at hlay
    have h6 := u_store hfc hkC hkind hlay hi hd hn hfit
    refine W.putK hx hb (f := f) ⟨hown, hts _ hl, ⟨_, _, _, hi⟩, hst⟩ (by rw [q2]; exact h6) q1 q3 (by rw [hsl]; exact k2_hasslot (q4 k hkk)) rfl rfl hdg fun H' e1 e2 e3 => ?_
    rw [hsl] at e1 ⊢
    exact kk H' _ e2 e3 ⟨_, e1, q2, q3, t_set q4 hap hkk v⟩ (hS.put e2 e3 (show b < b + a by omega))
end
section
variable {D : va_G} {cy : Nat → ClassId} {b : Nat} {M : mm_M} {H H1 : Heap} {a k : Nat}
theorem sI_ne {v : Int32} (x : Nat) (h : x ≠ a) : mI (sI M a k v) x = mI M x := by
  funext y; show (if x = a then (if y = k then v else M.2.2.1 x y) else M.2.2.1 x y) = _; rw [if_neg h]; rfl
theorem sI_at {v : Int32} (y : Nat) : mI (sI M a k v) a y = if y = k then v else mI M a y := by
  show (if a = a then (if y = k then v else M.2.2.1 a y) else M.2.2.1 a y) = _; rw [if_pos rfl]; rfl
theorem sJ_ne {v : Int64} (x : Nat) (h : x ≠ a) : mJ (sJ M a k v) x = mJ M x := by
  funext y; show (if x = a then (if y = k then v else M.2.2.2.1 x y) else M.2.2.2.1 x y) = _; rw [if_neg h]; rfl
theorem sJ_at {v : Int64} (y : Nat) : mJ (sJ M a k v) a y = if y = k then v else mJ M a y := by
  show (if a = a then (if y = k then v else M.2.2.2.1 a y) else M.2.2.2.1 a y) = _; rw [if_pos rfl]; rfl
theorem sR_ne {v : Nat} (x : Nat) (h : x ≠ a) : mR (sR M a k v) x = mR M x := by
  funext y; show (if x = a then (if y = k then v else M.2.2.2.2.1 x y) else M.2.2.2.2.1 x y) = _; rw [if_neg h]; rfl
theorem sR_at {v : Nat} (y : Nat) : mR (sR M a k v) a y = if y = k then v else mR M a y := by
  show (if a = a then (if y = k then v else M.2.2.2.2.1 a y) else M.2.2.2.2.1 a y) = _; rw [if_pos rfl]; rfl
theorem p_I {ci : Nat} {v : Int32} (hW : WR D cy b M H) (hk : mK M a = ci) (hci : ci < 13) (h1 : ¬ ft ci k = 1) (h2 : ¬ ft ci k = 2) (z : H1.size = H.size) (oq : ∀ q, q ≠ b + a → H1[q]? = H[q]?) (hO : t_OB (b + a) (D.1 ci) (ftT ci).length (D.2 ci) H1 (updV (fv b M ci a) k (.int v))) : WR D cy b (sI M a k v) H1 := by
  refine WR_set (a := a) hW (fun _ => rfl) (fun _ => rfl) rfl sI_ne (fun _ _ => rfl) (fun _ _ => rfl) z oq (cok_ob hk hci (hO.to (fun j _ => ?_)))
  unfold updV fv
  rw [sI_at]
  by_cases hj : j = k
  · subst hj
    rw [if_pos rfl, if_neg h1, if_neg h2, if_pos rfl]
  · rw [if_neg hj, if_neg hj]
    rfl
theorem p_J {ci : Nat} {v : Int64} (hW : WR D cy b M H) (hk : mK M a = ci) (hci : ci < 13) (h1 : ft ci k = 1) (z : H1.size = H.size) (oq : ∀ q, q ≠ b + a → H1[q]? = H[q]?) (hO : t_OB (b + a) (D.1 ci) (ftT ci).length (D.2 ci) H1 (updV (fv b M ci a) k (.long v))) : WR D cy b (sJ M a k v) H1 := by
  refine WR_set (a := a) hW (fun _ => rfl) (fun _ => rfl) rfl (fun _ _ => rfl) sJ_ne (fun _ _ => rfl) z oq (cok_ob hk hci (hO.to (fun j _ => ?_)))
  unfold updV fv
  rw [sJ_at]
  by_cases hj : j = k
  · subst hj
    rw [if_pos rfl, if_pos h1, if_pos rfl]
  · rw [if_neg hj, if_neg hj]
    rfl
theorem p_R {ci : Nat} {v : Nat} (hW : WR D cy b M H) (hk : mK M a = ci) (hci : ci < 13) (h2 : ft ci k = 2) (z : H1.size = H.size) (oq : ∀ q, q ≠ b + a → H1[q]? = H[q]?) (hO : t_OB (b + a) (D.1 ci) (ftT ci).length (D.2 ci) H1 (updV (fv b M ci a) k (va_rf (ro b v)))) : WR D cy b (sR M a k v) H1 := by
  refine WR_set (a := a) hW (fun _ => rfl) (fun _ => rfl) rfl (fun _ _ => rfl) (fun _ _ => rfl) sR_ne z oq (cok_ob hk hci (hO.to (fun j _ => ?_)))
  unfold updV fv
  rw [sR_at]
  by_cases hj : j = k
  · subst hj
    rw [if_pos rfl, if_neg (by rw [h2]; decide), if_pos h2, if_pos rfl]
  · rw [if_neg hj, if_neg hj]
    rfl
theorem q_I {ci : Nat} {v : Int32} (hW : WR D cy b M H) (hk : mK M a = ci) (hc : ¬ ci < 13) (h1 : ¬ ci = 15) (h2 : ¬ (ci = 17 ∨ ci = 18)) (z : H1.size = H.size) (oq : ∀ q, q ≠ b + a → H1[q]? = H[q]?) (hO : H1[b + a]? = some (arrV (cy ci) (mN M a) (updV (av b M ci a) k (.int v)))) : WR D cy b (sI M a k v) H1 := by
  refine WR_set (a := a) hW (fun _ => rfl) (fun _ => rfl) rfl sI_ne (fun _ _ => rfl) (fun _ _ => rfl) z oq (cok_ar hk hc (hO.trans ?_))
  show some (arrV (cy ci) (mN M a) _) = some (arrV (cy ci) (mN M a) _)
  congr 2
  funext j
  unfold updV av
  rw [sI_at, if_neg h1, if_neg h2, if_neg h1, if_neg h2]
  by_cases hj : j = k
  · rw [if_pos hj, if_pos hj]
  · rw [if_neg hj, if_neg hj]
theorem q_J {v : Int64} (hW : WR D cy b M H) (hk : mK M a = 15) (z : H1.size = H.size) (oq : ∀ q, q ≠ b + a → H1[q]? = H[q]?) (hO : H1[b + a]? = some (arrV (cy 15) (mN M a) (updV (av b M 15 a) k (.long v)))) : WR D cy b (sJ M a k v) H1 := by
  refine WR_set (a := a) hW (fun _ => rfl) (fun _ => rfl) rfl (fun _ _ => rfl) sJ_ne (fun _ _ => rfl) z oq (cok_ar hk (by omega) (hO.trans ?_))
  show some (arrV (cy 15) (mN M a) _) = some (arrV (cy 15) (mN M a) _)
  congr 2
  funext j
  unfold updV av
  rw [sJ_at, if_pos rfl, if_pos rfl]
  by_cases hj : j = k
  · rw [if_pos hj, if_pos hj]
  · rw [if_neg hj, if_neg hj]
theorem q_R {ci v : Nat} (hW : WR D cy b M H) (hk : mK M a = ci) (h2 : ci = 17 ∨ ci = 18) (z : H1.size = H.size) (oq : ∀ q, q ≠ b + a → H1[q]? = H[q]?) (hO : H1[b + a]? = some (arrV (cy ci) (mN M a) (updV (av b M ci a) k (va_rf (ro b v))))) : WR D cy b (sR M a k v) H1 := by
  refine WR_set (a := a) hW (fun _ => rfl) (fun _ => rfl) rfl (fun _ _ => rfl) (fun _ _ => rfl) sR_ne z oq (cok_ar hk (by omega) (hO.trans ?_))
  show some (arrV (cy ci) (mN M a) _) = some (arrV (cy ci) (mN M a) _)
  congr 2
  funext j
  unfold updV av
  have h15 : ¬ ci = 15 := by omega
  rw [sR_at, if_neg h15, if_pos h2, if_neg h15, if_pos h2]
  by_cases hj : j = k
  · rw [if_pos hj, if_pos hj]
  · rw [if_neg hj, if_neg hj]
theorem rwI_ok {g : Nat → Int32} (hW : WR D cy b M H) (hk : mK M a = 14) (z : H1.size = H.size) (oq : ∀ q, q ≠ b + a → H1[q]? = H[q]?) (hO : H1[b + a]? = some (arrV (cy 14) (mN M a) (fun j => .int (g j)))) : WR D cy b (rwI M a g) H1 := by
  refine WR_set (a := a) hW (fun _ => rfl) (fun _ => rfl) rfl (fun x hx => ?_) (fun _ _ => rfl) (fun _ _ => rfl) z oq (cok_ar hk (by omega) (hO.trans ?_))
  · show (if x = a then g else M.2.2.1 x) = _; rw [if_neg hx]; rfl
  · show some (arrV (cy 14) (mN M a) _) = some (arrV (cy 14) (mN M a) _)
    congr 2
    funext j
    show Value.int (g j) = .int ((if a = a then g else M.2.2.1 a) j)
    rw [if_pos rfl]
theorem rwJ_ok {g : Nat → Int64} (hW : WR D cy b M H) (hk : mK M a = 15) (z : H1.size = H.size) (oq : ∀ q, q ≠ b + a → H1[q]? = H[q]?) (hO : H1[b + a]? = some (arrV (cy 15) (mN M a) (fun j => .long (g j)))) : WR D cy b (rwJ M a g) H1 := by
  refine WR_set (a := a) hW (fun _ => rfl) (fun _ => rfl) rfl (fun _ _ => rfl) (fun x hx => ?_) (fun _ _ => rfl) z oq (cok_ar hk (by omega) (hO.trans ?_))
  · show (if x = a then g else M.2.2.2.1 x) = _; rw [if_neg hx]; rfl
  · show some (arrV (cy 15) (mN M a) _) = some (arrV (cy 15) (mN M a) _)
    congr 2
    funext j
    show Value.long (g j) = .long ((if a = a then g else M.2.2.2.1 a) j)
    rw [if_pos rfl]
end
end
section
section
variable {p : Program} {l : Launch} {e : Env} {R : Room} {s : State} {m : MethodId} {args : Array Value} {below : List Frame} {meth : Method} {c : Code} {H : Heap} {locs : List Loc} {cells slots : Nat} {Qf : State → Prop} {cc : ByteArray} {pc : Nat} {rl : Array Slot} {o nL : Nat} {D : va_G} {cy : Nat → ClassId} {b : Nat} {xo : Nat → Option Nat} {L : Nat} {xs : Nat → Int32} {M : mm_M} {st : List Value}
theorem r_iald {a : Nat} {i : Int32} (hC : CX p s m args c cc o nL D cy b xo L xs) (hW : WR D cy b M H) (hk : mK M a = 14) (hin : vp_in i (mN M a)) (hdg : decode cc pc = .ok (.iaload, 1))
    (kk : W p l e R s m args below meth c H locs cells slots Qf (F0 m (pc + 1) rl (.int (mI M a i.toNatClampNeg) :: st))) : W p l e R s m args below meth c H locs cells slots Qf (F0 m pc rl (.int i :: cv b xo (.ref a) :: st)) := by
  obtain ⟨hx, hb, hml, hown, hts, hK, hE, hbs⟩ := hC
  obtain ⟨ha, hc⟩ := hW.ar hk (by omega) (by omega)
  rw [cv_r ha]
  have hlt : i.toNatClampNeg < mN M a := Nat.not_le.mp fun q => hin (Or.inr q)
  exact W.iald (v := .int (mI M a i.toNatClampNeg)) hx hb hc ((hK.2 1 _ rfl).1 _ _) (fun q => by cases q) (by rw [arrV_size]; exact hin) (by rw [arrV_read _ _ hlt]; rfl) rfl rfl hdg kk
theorem r_cald {a : Nat} {i : Int32} (hC : CX p s m args c cc o nL D cy b xo L xs) (hW : WR D cy b M H) (hk : mK M a = 13) (hin : vp_in i (mN M a)) (hdg : decode cc pc = .ok (.caload, 1))
    (kk : W p l e R s m args below meth c H locs cells slots Qf (F0 m (pc + 1) rl (.int (mI M a i.toNatClampNeg) :: st))) : W p l e R s m args below meth c H locs cells slots Qf (F0 m pc rl (.int i :: cv b xo (.ref a) :: st)) := by
  obtain ⟨hx, hb, hml, hown, hts, hK, hE, hbs⟩ := hC
  obtain ⟨ha, hc⟩ := hW.ar hk (by omega) (by omega)
  rw [cv_r ha]
  have hlt : i.toNatClampNeg < mN M a := Nat.not_le.mp fun q => hin (Or.inr q)
  exact W.cald (v := .int (mI M a i.toNatClampNeg)) hx hb hc ((hK.2 0 _ rfl).1 _ _) (fun q => by cases q) (by rw [arrV_size]; exact hin) (by rw [arrV_read _ _ hlt]; rfl) rfl rfl hdg kk
theorem r_zald {a : Nat} {i : Int32} (hC : CX p s m args c cc o nL D cy b xo L xs) (hW : WR D cy b M H) (hk : mK M a = 16) (hin : vp_in i (mN M a)) (hdg : decode cc pc = .ok (.baload, 1))
    (kk : W p l e R s m args below meth c H locs cells slots Qf (F0 m (pc + 1) rl (.int (mI M a i.toNatClampNeg) :: st))) : W p l e R s m args below meth c H locs cells slots Qf (F0 m pc rl (.int i :: cv b xo (.ref a) :: st)) := by
  obtain ⟨hx, hb, hml, hown, hts, hK, hE, hbs⟩ := hC
  obtain ⟨ha, hc⟩ := hW.ar hk (by omega) (by omega)
  rw [cv_r ha]
  have hlt : i.toNatClampNeg < mN M a := Nat.not_le.mp fun q => hin (Or.inr q)
  exact W.zald (v := .int (mI M a i.toNatClampNeg)) hx hb hc ((hK.2 3 _ rfl).1 _ _) (fun q => by cases q) (by rw [arrV_size]; exact hin) (by rw [arrV_read _ _ hlt]; rfl) rfl rfl hdg kk
theorem r_lald {a : Nat} {i : Int32} (hC : CX p s m args c cc o nL D cy b xo L xs) (hW : WR D cy b M H) (hk : mK M a = 15) (hin : vp_in i (mN M a)) (hdg : decode cc pc = .ok (.laload, 1))
    (kk : W p l e R s m args below meth c H locs cells slots Qf (F0 m (pc + 1) rl (.long (mJ M a i.toNatClampNeg) :: st))) : W p l e R s m args below meth c H locs cells slots Qf (F0 m pc rl (.int i :: cv b xo (.ref a) :: st)) := by
  obtain ⟨hx, hb, hml, hown, hts, hK, hE, hbs⟩ := hC
  obtain ⟨ha, hc⟩ := hW.ar hk (by omega) (by omega)
  rw [cv_r ha]
  have hlt : i.toNatClampNeg < mN M a := Nat.not_le.mp fun q => hin (Or.inr q)
  exact W.lald (v := .long (mJ M a i.toNatClampNeg)) hx hb hc ((hK.2 2 _ rfl).1 _ _) (fun q => by cases q) (by rw [arrV_size]; exact hin) (by rw [arrV_read _ _ hlt]; rfl) rfl rfl hdg kk
theorem r_aaldF {a : Nat} {i : Int32} (hC : CX p s m args c cc o nL D cy b xo L xs) (hW : WR D cy b M H) (hk : mK M a = 17) (hin : vp_in i (mN M a)) (hdg : decode cc pc = .ok (.aaload, 1))
    (kk : W p l e R s m args below meth c H locs cells slots Qf (F0 m (pc + 1) rl (va_rf (ro b (mR M a i.toNatClampNeg)) :: st))) : W p l e R s m args below meth c H locs cells slots Qf (F0 m pc rl (.int i :: cv b xo (.ref a) :: st)) := by
  obtain ⟨hx, hb, hml, hown, hts, hK, hE, hbs⟩ := hC
  obtain ⟨ha, hc⟩ := hW.ar hk (by omega) (by omega)
  rw [cv_r ha]
  have hlt : i.toNatClampNeg < mN M a := Nat.not_le.mp fun q => hin (Or.inr q)
  exact W.aald (v := va_rf (ro b (mR M a i.toNatClampNeg))) hx hb hc ((hK.2 4 _ rfl).1 _ _) rfl (fun q => by cases q) (by rw [arrV_size]; exact hin) (by rw [arrV_read _ _ hlt]; rfl) rfl rfl hdg kk
theorem r_aaldS {a : Nat} {i : Int32} (hC : CX p s m args c cc o nL D cy b xo L xs) (hW : WR D cy b M H) (hk : mK M a = 18) (hin : vp_in i (mN M a)) (hdg : decode cc pc = .ok (.aaload, 1))
    (kk : W p l e R s m args below meth c H locs cells slots Qf (F0 m (pc + 1) rl (va_rf (ro b (mR M a i.toNatClampNeg)) :: st))) : W p l e R s m args below meth c H locs cells slots Qf (F0 m pc rl (.int i :: cv b xo (.ref a) :: st)) := by
  obtain ⟨hx, hb, hml, hown, hts, hK, hE, hbs⟩ := hC
  obtain ⟨ha, hc⟩ := hW.ar hk (by omega) (by omega)
  rw [cv_r ha]
  have hlt : i.toNatClampNeg < mN M a := Nat.not_le.mp fun q => hin (Or.inr q)
  exact W.aald (v := va_rf (ro b (mR M a i.toNatClampNeg))) hx hb hc ((hK.2 5 _ rfl).1 _ _) rfl (fun q => by cases q) (by rw [arrV_size]; exact hin) (by rw [arrV_read _ _ hlt]; rfl) rfl rfl hdg kk
theorem r_iast {a : Nat} {i : Int32} {v : Int32} (hC : CX p s m args c cc o nL D cy b xo L xs) (hW : WR D cy b M H) (hS : va_S (AA b) s.heap H locs) (hk : mK M a = 14) (hin : vp_in i (mN M a)) (hdg : decode cc pc = .ok (.iastore, 1))
    (kk : ∀ (H1 : Heap) (locs1 : List Loc), WR D cy b (sI M a i.toNatClampNeg v) H1 → va_S (AA b) s.heap H1 locs1 → W p l e R s m args below meth c H1 locs1 cells slots Qf (F0 m (pc + 1) rl st)) : W p l e R s m args below meth c H locs cells slots Qf (F0 m pc rl (.int v :: .int i :: cv b xo (.ref a) :: st)) := by
  obtain ⟨hx, hb, hml, hown, hts, hK, hE, hbs⟩ := hC
  obtain ⟨ha, hc⟩ := hW.ar hk (by omega) (by omega)
  rw [cv_r ha]
  refine W.iast hx hb hc ((hK.2 1 _ rfl).1 _ _) (fun q => by cases q) (by rw [arrV_size]; exact hin) rfl rfl hdg fun H1 e1 z oq => ?_
  rw [arrV_store] at e1
  exact kk H1 _ (q_I hW hk (by omega) (by omega) (by omega) z oq e1) (hS.put z oq (show b < b + a by omega))
theorem r_cast {a : Nat} {i : Int32} {v : Int32} (hC : CX p s m args c cc o nL D cy b xo L xs) (hW : WR D cy b M H) (hS : va_S (AA b) s.heap H locs) (hk : mK M a = 13) (hin : vp_in i (mN M a)) (hdg : decode cc pc = .ok (.castore, 1))
    (kk : ∀ (H1 : Heap) (locs1 : List Loc), WR D cy b (sI M a i.toNatClampNeg (vp_nar .char v)) H1 → va_S (AA b) s.heap H1 locs1 → W p l e R s m args below meth c H1 locs1 cells slots Qf (F0 m (pc + 1) rl st)) : W p l e R s m args below meth c H locs cells slots Qf (F0 m pc rl (.int v :: .int i :: cv b xo (.ref a) :: st)) := by
  obtain ⟨hx, hb, hml, hown, hts, hK, hE, hbs⟩ := hC
  obtain ⟨ha, hc⟩ := hW.ar hk (by omega) (by omega)
  rw [cv_r ha]
  refine W.cast hx hb hc ((hK.2 0 _ rfl).1 _ _) (fun q => by cases q) (by rw [arrV_size]; exact hin) rfl rfl hdg fun H1 e1 z oq => ?_
  rw [arrV_store] at e1
  exact kk H1 _ (q_I hW hk (by omega) (by omega) (by omega) z oq e1) (hS.put z oq (show b < b + a by omega))
theorem r_zast {a : Nat} {i : Int32} {v : Int32} (hC : CX p s m args c cc o nL D cy b xo L xs) (hW : WR D cy b M H) (hS : va_S (AA b) s.heap H locs) (hk : mK M a = 16) (hin : vp_in i (mN M a)) (hdg : decode cc pc = .ok (.bastore, 1))
    (kk : ∀ (H1 : Heap) (locs1 : List Loc), WR D cy b (sI M a i.toNatClampNeg (vp_nar .boolean v)) H1 → va_S (AA b) s.heap H1 locs1 → W p l e R s m args below meth c H1 locs1 cells slots Qf (F0 m (pc + 1) rl st)) : W p l e R s m args below meth c H locs cells slots Qf (F0 m pc rl (.int v :: .int i :: cv b xo (.ref a) :: st)) := by
  obtain ⟨hx, hb, hml, hown, hts, hK, hE, hbs⟩ := hC
  obtain ⟨ha, hc⟩ := hW.ar hk (by omega) (by omega)
  rw [cv_r ha]
  refine W.zast hx hb hc ((hK.2 3 _ rfl).1 _ _) (fun q => by cases q) (by rw [arrV_size]; exact hin) rfl rfl hdg fun H1 e1 z oq => ?_
  rw [arrV_store] at e1
  exact kk H1 _ (q_I hW hk (by omega) (by omega) (by omega) z oq e1) (hS.put z oq (show b < b + a by omega))
theorem r_last {a : Nat} {i : Int32} {v : Int64} (hC : CX p s m args c cc o nL D cy b xo L xs) (hW : WR D cy b M H) (hS : va_S (AA b) s.heap H locs) (hk : mK M a = 15) (hin : vp_in i (mN M a)) (hdg : decode cc pc = .ok (.lastore, 1))
    (kk : ∀ (H1 : Heap) (locs1 : List Loc), WR D cy b (sJ M a i.toNatClampNeg v) H1 → va_S (AA b) s.heap H1 locs1 → W p l e R s m args below meth c H1 locs1 cells slots Qf (F0 m (pc + 1) rl st)) : W p l e R s m args below meth c H locs cells slots Qf (F0 m pc rl (.long v :: .int i :: cv b xo (.ref a) :: st)) := by
  obtain ⟨hx, hb, hml, hown, hts, hK, hE, hbs⟩ := hC
  obtain ⟨ha, hc⟩ := hW.ar hk (by omega) (by omega)
  rw [cv_r ha]
  refine W.last hx hb hc ((hK.2 2 _ rfl).1 _ _) (fun q => by cases q) (by rw [arrV_size]; exact hin) rfl rfl hdg fun H1 e1 z oq => ?_
  rw [arrV_store] at e1
  exact kk H1 _ (q_J hW hk z oq e1) (hS.put z oq (show b < b + a by omega))
theorem r_aastF {a v : Nat} {i : Int32} (hC : CX p s m args c cc o nL D cy b xo L xs) (hW : WR D cy b M H) (hS : va_S (AA b) s.heap H locs) (hk : mK M a = 17) (hv : mK M v = 0) (hin : vp_in i (mN M a)) (hdg : decode cc pc = .ok (.aastore, 1))
    (kk : ∀ (H1 : Heap) (locs1 : List Loc), WR D cy b (sR M a i.toNatClampNeg v) H1 → va_S (AA b) s.heap H1 locs1 → W p l e R s m args below meth c H1 locs1 cells slots Qf (F0 m (pc + 1) rl st)) : W p l e R s m args below meth c H locs cells slots Qf (F0 m pc rl (cv b xo (.ref v) :: .int i :: cv b xo (.ref a) :: st)) := by
  obtain ⟨hx, hb, hml, hown, hts, hK, hE, hbs⟩ := hC
  obtain ⟨ha, hc⟩ := hW.ar hk (by omega) (by omega)
  obtain ⟨hv0, cellV, g1, g2, g3, -⟩ := hW.ob hv (by omega)
  rw [cv_r ha, cv_r hv0]
  have hlt : i.toNatClampNeg < mN M a := Nat.not_le.mp fun q => hin (Or.inr q)
  have h0 : ¬ i < 0 := fun q => hin (Or.inl q)
  have hcls := (hK.1 0 _ (cL_at 0 (by omega))).2
  obtain ⟨kA, comp, k1, k2, k3, -⟩ := (hK.2 4 _ rfl).2
  have hcomp : comp = D.1 0 := Option.some.inj (k3.symm.trans hcls.1)
  subst hcomp
  obtain ⟨kC, hkC, -⟩ := hcls.2
  refine W.aast hx hb hc (fun q h => by cases h) (fun h => by cases h) k1 k2 rfl hkC ⟨h0, by rw [arrV_size]; exact hlt⟩ g1 (fun q h => by rw [g3] at h; cases h) (by rw [g2]; exact hkC) (by rw [g2]; exact va_assign hcls) rfl rfl hdg fun H1 e1 z oq => ?_
  rw [arrV_store] at e1
  refine kk H1 _ (q_R hW hk (by omega) z oq ?_) (hS.put z oq (show b < b + a by omega))
  rw [e1]
  congr 3
  unfold ro
  rw [if_neg hv0]
  rfl
theorem r_aastS {a v : Nat} {i : Int32} (hC : CX p s m args c cc o nL D cy b xo L xs) (hW : WR D cy b M H) (hS : va_S (AA b) s.heap H locs) (hk : mK M a = 18) (hv : mK M v = 9) (hin : vp_in i (mN M a)) (hdg : decode cc pc = .ok (.aastore, 1))
    (kk : ∀ (H1 : Heap) (locs1 : List Loc), WR D cy b (sR M a i.toNatClampNeg v) H1 → va_S (AA b) s.heap H1 locs1 → W p l e R s m args below meth c H1 locs1 cells slots Qf (F0 m (pc + 1) rl st)) : W p l e R s m args below meth c H locs cells slots Qf (F0 m pc rl (cv b xo (.ref v) :: .int i :: cv b xo (.ref a) :: st)) := by
  obtain ⟨hx, hb, hml, hown, hts, hK, hE, hbs⟩ := hC
  obtain ⟨ha, hc⟩ := hW.ar hk (by omega) (by omega)
  obtain ⟨hv0, cellV, g1, g2, g3, -⟩ := hW.ob hv (by omega)
  rw [cv_r ha, cv_r hv0]
  have hlt : i.toNatClampNeg < mN M a := Nat.not_le.mp fun q => hin (Or.inr q)
  have h0 : ¬ i < 0 := fun q => hin (Or.inl q)
  have hcls := (hK.1 9 _ (cL_at 9 (by omega))).2
  obtain ⟨kA, comp, k1, k2, k3, -⟩ := (hK.2 5 _ rfl).2
  have hcomp : comp = D.1 9 := Option.some.inj (k3.symm.trans hcls.1)
  subst hcomp
  obtain ⟨kC, hkC, -⟩ := hcls.2
  refine W.aast hx hb hc (fun q h => by cases h) (fun h => by cases h) k1 k2 rfl hkC ⟨h0, by rw [arrV_size]; exact hlt⟩ g1 (fun q h => by rw [g3] at h; cases h) (by rw [g2]; exact hkC) (by rw [g2]; exact va_assign hcls) rfl rfl hdg fun H1 e1 z oq => ?_
  rw [arrV_store] at e1
  refine kk H1 _ (q_R hW hk (by omega) z oq ?_) (hS.put z oq (show b < b + a by omega))
  rw [e1]
  congr 3
  unfold ro
  rw [if_neg hv0]
  rfl
theorem TO_all : ∀ k, k < 13 → ∃ q ∈ TO, q.1 = k := by decide +kernel
theorem TO_in {k : Nat} (h : k < 13) : Cond.instantiable (on k) (ftT k).length ∈ gT := by
  obtain ⟨q, hq, rfl⟩ := TO_all k h
  exact TO_ok q hq
theorem IO_all : ∀ k, k < 20 → ∃ q ∈ IO0, q.1 = k := by decide +kernel
theorem IO_in {k : Nat} (h : k < 20) : Cond.initialized (on k) ∈ gT := by
  obtain ⟨q, hq, rfl⟩ := IO_all k h
  exact IO0_ok q hq
theorem nw_K {kd n w : Nat} : mK (nw M kd n w) (mS M) = kd := by show (if mS M = mS M then kd else M.1 (mS M)) = kd; rw [if_pos rfl]
theorem nw_N {kd n w : Nat} : mN (nw M kd n w) (mS M) = n := by show (if mS M = mS M then n else M.2.1 (mS M)) = n; rw [if_pos rfl]
theorem nw_I {kd n w : Nat} : mI (nw M kd n w) (mS M) = fun _ => 0 := by show (if mS M = mS M then (fun _ => 0) else M.2.2.1 (mS M)) = _; rw [if_pos rfl]
theorem nw_J {kd n w : Nat} : mJ (nw M kd n w) (mS M) = fun _ => 0 := by show (if mS M = mS M then (fun _ => 0) else M.2.2.2.1 (mS M)) = _; rw [if_pos rfl]
theorem nw_R {kd n w : Nat} : mR (nw M kd n w) (mS M) = fun _ => 0 := by show (if mS M = mS M then (fun _ => 0) else M.2.2.2.2.1 (mS M)) = _; rw [if_pos rfl]
theorem fv_new {n w : Nat} (hn : n < 13) (j : Nat) (hj : j < (ftT n).length) : defaultValue (cY n j) = fv b (nw M n 0 w) n (mS M) j := by
  unfold fv
  rw [nw_I, nw_J, nw_R]
  rcases cL_ft n hn j hj with ⟨h1, h2⟩ | ⟨h1, h2⟩ | ⟨h1, h2⟩ | ⟨h1, h2⟩
  · rw [h1, h2]; rfl
  · rw [h1, h2]; rfl
  · rw [h1]
    cases hy : cY n j <;> first | rfl | (rw [hy] at h2; cases h2)
  · rw [h1, h2]; rfl
theorem SS_new {H1 : Heap} (hS : va_S (AA b) s.heap H locs) (z1 : H1.size = H.size + 1) (o1 : ∀ q, q < H.size → H1[q]? = H[q]?) : va_S (AA b) s.heap H1 locs := ⟨Nat.le_trans hS.1 (by omega), fun x h1 h2 => (o1 x (Nat.lt_of_lt_of_le h1 hS.1)).trans (hS.2.1 x h1 h2), hS.2.2⟩
theorem r_new {n x : Nat} (hC : CX p s m args c cc o nL D cy b xo L xs) (hW : WR D cy b M H) (hS : va_S (AA b) s.heap H locs) (hn : n < 13) (hl : Cond.classLink (on o) x (on n) ∈ gT) (hcells : cells + 1 ≤ R.cells) (hslots : slots + (ftT n).length ≤ R.slots) (hdg : decode cc pc = .ok (.new x, 3))
    (kk : ∀ H1 : Heap, WR D cy b (nw M n 0 (ftT n).length) H1 → va_S (AA b) s.heap H1 locs → W p l e R s m args below meth c H1 locs (cells + 1) (slots + (ftT n).length) Qf (F0 m (pc + 3) rl (cv b xo (.ref (mS M)) :: st))) : W p l e R s m args below meth c H locs cells slots Qf (F0 m pc rl st) := by
  obtain ⟨hx, hb, hml, hown, hts, hK, hE, hbs⟩ := hC
  have hKn := hK.1 n _ (cL_at n hn)
  have hsz := hW.1
  have hp : 0 < mS M := by have := hS.1; omega
  have e2 : cv b xo (.ref (mS M)) = .ref H.size := by rw [cv_r (by omega), hsz]
  rw [e2] at kk
  refine W.newcK hx hb hown (hts _ hl) (hts _ (TO_in hn)) (hts _ (IO_in (by omega))) rfl hdg hcells hslots hKn.2.1 rfl fun H1 kC hkC e1 z1 o1 => ?_
  refine kk H1 (WR_new hW hp z1 o1 (cok_ob nw_K hn ?_)) (SS_new hS z1 o1)
  exact (u_born (cY n) hts (cL_ws hn) hKn hkC (by rw [← hsz]; exact e1) (cL_ty n hn)).to (fv_new hn)
theorem r_newa_char {n : Int32} (hC : CX p s m args c cc o nL D cy b xo L xs) (hW : WR D cy b M H) (hS : va_S (AA b) s.heap H locs) (hn : ¬ n < 0) (hN : n.toNatClampNeg ≤ 65536) (hcells : cells + 1 ≤ R.cells) (hslots : slots + n.toNatClampNeg ≤ R.slots) (hdg : decode cc pc = .ok (.newarray .char, 2))
    (kk : ∀ H1 : Heap, WR D cy b (nw M 13 n.toNatClampNeg n.toNatClampNeg) H1 → va_S (AA b) s.heap H1 locs → W p l e R s m args below meth c H1 locs (cells + 1) (slots + n.toNatClampNeg) Qf (F0 m (pc + 2) rl (cv b xo (.ref (mS M)) :: st))) : W p l e R s m args below meth c H locs cells slots Qf (F0 m pc rl (.int n :: st)) := by
  obtain ⟨hx, hb, hml, hown, hts, hK, hE, hbs⟩ := hC
  have hsz := hW.1
  have hp : 0 < mS M := by have := hS.1; omega
  have e2 : cv b xo (.ref (mS M)) = .ref H.size := by rw [cv_r (by omega), hsz]
  rw [e2] at kk
  refine va_newaK hx hb (atype := .char) (hts _ (AR_ok (.char, _) (List.mem_of_getElem? (i := 0) rfl))) rfl hdg rfl hn rfl (by show _ * 2 ≤ _; omega) hcells hslots rfl fun H1 cA e1 z1 o1 hAr hNm => ?_
  have hcA : cA = cy 13 := Option.some.inj (hNm.symm.trans (hK.2 0 _ rfl).2)
  subst hcA
  refine kk H1 (WR_new hW hp z1 o1 (cok_ar nw_K (by omega) ?_)) (SS_new hS z1 o1)
  rw [← hsz, e1, nw_N]
  congr 2
  funext j
  unfold av
  rw [nw_I, nw_J]
  rfl
theorem r_newa_int {n : Int32} (hC : CX p s m args c cc o nL D cy b xo L xs) (hW : WR D cy b M H) (hS : va_S (AA b) s.heap H locs) (hn : ¬ n < 0) (hN : n.toNatClampNeg ≤ 65536) (hcells : cells + 1 ≤ R.cells) (hslots : slots + n.toNatClampNeg ≤ R.slots) (hdg : decode cc pc = .ok (.newarray .int, 2))
    (kk : ∀ H1 : Heap, WR D cy b (nw M 14 n.toNatClampNeg n.toNatClampNeg) H1 → va_S (AA b) s.heap H1 locs → W p l e R s m args below meth c H1 locs (cells + 1) (slots + n.toNatClampNeg) Qf (F0 m (pc + 2) rl (cv b xo (.ref (mS M)) :: st))) : W p l e R s m args below meth c H locs cells slots Qf (F0 m pc rl (.int n :: st)) := by
  obtain ⟨hx, hb, hml, hown, hts, hK, hE, hbs⟩ := hC
  have hsz := hW.1
  have hp : 0 < mS M := by have := hS.1; omega
  have e2 : cv b xo (.ref (mS M)) = .ref H.size := by rw [cv_r (by omega), hsz]
  rw [e2] at kk
  refine va_newaK hx hb (atype := .int) (hts _ (AR_ok (.int, _) (List.mem_of_getElem? (i := 1) rfl))) rfl hdg rfl hn rfl (by show _ * 4 ≤ _; omega) hcells hslots rfl fun H1 cA e1 z1 o1 hAr hNm => ?_
  have hcA : cA = cy 14 := Option.some.inj (hNm.symm.trans (hK.2 1 _ rfl).2)
  subst hcA
  refine kk H1 (WR_new hW hp z1 o1 (cok_ar nw_K (by omega) ?_)) (SS_new hS z1 o1)
  rw [← hsz, e1, nw_N]
  congr 2
  funext j
  unfold av
  rw [nw_I, nw_J]
  rfl
theorem r_newa_long {n : Int32} (hC : CX p s m args c cc o nL D cy b xo L xs) (hW : WR D cy b M H) (hS : va_S (AA b) s.heap H locs) (hn : ¬ n < 0) (hN : n.toNatClampNeg ≤ 65536) (hcells : cells + 1 ≤ R.cells) (hslots : slots + n.toNatClampNeg ≤ R.slots) (hdg : decode cc pc = .ok (.newarray .long, 2))
    (kk : ∀ H1 : Heap, WR D cy b (nw M 15 n.toNatClampNeg n.toNatClampNeg) H1 → va_S (AA b) s.heap H1 locs → W p l e R s m args below meth c H1 locs (cells + 1) (slots + n.toNatClampNeg) Qf (F0 m (pc + 2) rl (cv b xo (.ref (mS M)) :: st))) : W p l e R s m args below meth c H locs cells slots Qf (F0 m pc rl (.int n :: st)) := by
  obtain ⟨hx, hb, hml, hown, hts, hK, hE, hbs⟩ := hC
  have hsz := hW.1
  have hp : 0 < mS M := by have := hS.1; omega
  have e2 : cv b xo (.ref (mS M)) = .ref H.size := by rw [cv_r (by omega), hsz]
  rw [e2] at kk
  refine va_newaK hx hb (atype := .long) (hts _ (AR_ok (.long, _) (List.mem_of_getElem? (i := 2) rfl))) rfl hdg rfl hn rfl (by show _ * 8 ≤ _; omega) hcells hslots rfl fun H1 cA e1 z1 o1 hAr hNm => ?_
  have hcA : cA = cy 15 := Option.some.inj (hNm.symm.trans (hK.2 2 _ rfl).2)
  subst hcA
  refine kk H1 (WR_new hW hp z1 o1 (cok_ar nw_K (by omega) ?_)) (SS_new hS z1 o1)
  rw [← hsz, e1, nw_N]
  congr 2
  funext j
  unfold av
  rw [nw_I, nw_J]
  rfl
theorem r_newa_boolean {n : Int32} (hC : CX p s m args c cc o nL D cy b xo L xs) (hW : WR D cy b M H) (hS : va_S (AA b) s.heap H locs) (hn : ¬ n < 0) (hN : n.toNatClampNeg ≤ 65536) (hcells : cells + 1 ≤ R.cells) (hslots : slots + n.toNatClampNeg ≤ R.slots) (hdg : decode cc pc = .ok (.newarray .boolean, 2))
    (kk : ∀ H1 : Heap, WR D cy b (nw M 16 n.toNatClampNeg n.toNatClampNeg) H1 → va_S (AA b) s.heap H1 locs → W p l e R s m args below meth c H1 locs (cells + 1) (slots + n.toNatClampNeg) Qf (F0 m (pc + 2) rl (cv b xo (.ref (mS M)) :: st))) : W p l e R s m args below meth c H locs cells slots Qf (F0 m pc rl (.int n :: st)) := by
  obtain ⟨hx, hb, hml, hown, hts, hK, hE, hbs⟩ := hC
  have hsz := hW.1
  have hp : 0 < mS M := by have := hS.1; omega
  have e2 : cv b xo (.ref (mS M)) = .ref H.size := by rw [cv_r (by omega), hsz]
  rw [e2] at kk
  refine va_newaK hx hb (atype := .boolean) (hts _ (AR_ok (.boolean, _) (List.mem_of_getElem? (i := 3) rfl))) rfl hdg rfl hn rfl (by show _ * 1 ≤ _; omega) hcells hslots rfl fun H1 cA e1 z1 o1 hAr hNm => ?_
  have hcA : cA = cy 16 := Option.some.inj (hNm.symm.trans (hK.2 3 _ rfl).2)
  subst hcA
  refine kk H1 (WR_new hW hp z1 o1 (cok_ar nw_K (by omega) ?_)) (SS_new hS z1 o1)
  rw [← hsz, e1, nw_N]
  congr 2
  funext j
  unfold av
  rw [nw_I, nw_J]
  rfl
theorem r_anewF {n : Int32} {x : Nat} (hC : CX p s m args c cc o nL D cy b xo L xs) (hW : WR D cy b M H) (hS : va_S (AA b) s.heap H locs) (hl : Cond.classLink (on o) x "ShoeOrchard$Felt" ∈ gT) (hn : ¬ n < 0) (hN : n.toNatClampNeg ≤ 65536) (hcells : cells + 1 ≤ R.cells) (hslots : slots + n.toNatClampNeg ≤ R.slots) (hdg : decode cc pc = .ok (.anewarray x, 3))
    (kk : ∀ H1 : Heap, WR D cy b (nw M 17 n.toNatClampNeg n.toNatClampNeg) H1 → va_S (AA b) s.heap H1 locs → W p l e R s m args below meth c H1 locs (cells + 1) (slots + n.toNatClampNeg) Qf (F0 m (pc + 3) rl (cv b xo (.ref (mS M)) :: st))) : W p l e R s m args below meth c H locs cells slots Qf (F0 m pc rl (.int n :: st)) := by
  obtain ⟨hx, hb, hml, hown, hts, hK, hE, hbs⟩ := hC
  have hsz := hW.1
  have hp : 0 < mS M := by have := hS.1; omega
  have e2 : cv b xo (.ref (mS M)) = .ref H.size := by rw [cv_r (by omega), hsz]
  rw [e2] at kk
  refine W.anew hx hb hown (hts _ hl) (va_AO.use hE.2.2.1.1) rfl hdg rfl hn (by omega) hcells hslots fun cA kA comp f1 f2 f3 f4 => ?_
  obtain ⟨kA', comp', g1, g2, g3, g4⟩ := (hK.2 4 _ rfl).2
  have hcA : cA = cy 17 := Option.some.inj (f1.symm.trans g4)
  subst hcA
  rw [arrV_new]
  refine kk _ (WR_new hW hp (by simp) (fun q hq => by rw [Array.getElem?_push, if_neg (Nat.ne_of_lt hq)]) (cok_ar nw_K (by omega) ?_)) (SS_new hS (by simp) (fun q hq => by rw [Array.getElem?_push, if_neg (Nat.ne_of_lt hq)]))
  rw [← hsz, Array.getElem?_push_size, nw_N]
  congr 2
  funext j
  unfold av
  rw [nw_R]
  rfl
theorem r_anewS {n : Int32} {x : Nat} (hC : CX p s m args c cc o nL D cy b xo L xs) (hW : WR D cy b M H) (hS : va_S (AA b) s.heap H locs) (hl : Cond.classLink (on o) x "ShoeOrchard$State" ∈ gT) (hn : ¬ n < 0) (hN : n.toNatClampNeg ≤ 65536) (hcells : cells + 1 ≤ R.cells) (hslots : slots + n.toNatClampNeg ≤ R.slots) (hdg : decode cc pc = .ok (.anewarray x, 3))
    (kk : ∀ H1 : Heap, WR D cy b (nw M 18 n.toNatClampNeg n.toNatClampNeg) H1 → va_S (AA b) s.heap H1 locs → W p l e R s m args below meth c H1 locs (cells + 1) (slots + n.toNatClampNeg) Qf (F0 m (pc + 3) rl (cv b xo (.ref (mS M)) :: st))) : W p l e R s m args below meth c H locs cells slots Qf (F0 m pc rl (.int n :: st)) := by
  obtain ⟨hx, hb, hml, hown, hts, hK, hE, hbs⟩ := hC
  have hsz := hW.1
  have hp : 0 < mS M := by have := hS.1; omega
  have e2 : cv b xo (.ref (mS M)) = .ref H.size := by rw [cv_r (by omega), hsz]
  rw [e2] at kk
  refine W.anew hx hb hown (hts _ hl) (va_AO.use hE.2.2.1.2) rfl hdg rfl hn (by omega) hcells hslots fun cA kA comp f1 f2 f3 f4 => ?_
  obtain ⟨kA', comp', g1, g2, g3, g4⟩ := (hK.2 5 _ rfl).2
  have hcA : cA = cy 18 := Option.some.inj (f1.symm.trans g4)
  subst hcA
  rw [arrV_new]
  refine kk _ (WR_new hW hp (by simp) (fun q hq => by rw [Array.getElem?_push, if_neg (Nat.ne_of_lt hq)]) (cok_ar nw_K (by omega) ?_)) (SS_new hS (by simp) (fun q hq => by rw [Array.getElem?_push, if_neg (Nat.ne_of_lt hq)]))
  rw [← hsz, Array.getElem?_push_size, nw_N]
  congr 2
  funext j
  unfold av
  rw [nw_R]
  rfl
/-- what stands outside -/
theorem r_xint {n : Nat} {i : Int32} (hC : CX p s m args c cc o nL D cy b xo L xs) (hS : va_S (AA b) s.heap H locs) (hn : n = 300 ∨ n = 200 ∨ n = 201) (hin : vp_in i (xlen L n)) (hdg : decode cc pc = .ok (.iaload, 1))
    (kk : W p l e R s m args below meth c H locs cells slots Qf (F0 m (pc + 1) rl (.int (xrow xs n i.toNatClampNeg) :: st))) : W p l e R s m args below meth c H locs cells slots Qf (F0 m pc rl (.int i :: cv b xo (.retAddr n) :: st)) := by
  obtain ⟨hx, hb, hml, hown, hts, hK, ⟨-, -, -, -, -, -, -, h8, h9, h10⟩, hbs⟩ := hC
  have hlt : i.toNatClampNeg < xlen L n := Nat.not_le.mp fun q => hin (Or.inr q)
  have h0 : ¬ i < 0 := fun q => hin (Or.inl q)
  rw [cv_x (h10 n (by omega))]
  rcases hn with rfl | hn
  · obtain ⟨⟨scr, e1, e2, e3, e4, e5⟩, f1, f2⟩ := h9
    refine W.iald (v := .int (xrow xs 300 i.toNatClampNeg)) hx hb (by rw [hS.2.1 _ f1 f2]; exact e1) e2 e3 (by rw [e4]; exact hin) ?_ rfl rfl hdg kk
    exact e5 _ hlt
  · obtain ⟨cell, e1, e2, e3, e4, e5, e6, e7⟩ := (h8 n hn).kept hS.2.1
    have h4 : xlen L n = 4 := by rcases hn with rfl | rfl <;> rfl
    rw [h4] at hlt
    exact W.iald (v := .int (xrow xs n i.toNatClampNeg)) hx hb e1 e2 e3 (fun z => by rcases z with z | z; exact h0 z; omega) (e6 _ hlt) rfl rfl hdg kk
theorem r_xlen (hC : CX p s m args c cc o nL D cy b xo L xs) (hS : va_S (AA b) s.heap H locs) (hdg : decode cc pc = .ok (.arraylength, 1))
    (kk : W p l e R s m args below meth c H locs cells slots Qf (F0 m (pc + 1) rl (.int (Int32.ofNat L) :: st))) : W p l e R s m args below meth c H locs cells slots Qf (F0 m pc rl (cv b xo (.retAddr 300) :: st)) := by
  obtain ⟨hx, hb, hml, hown, hts, hK, ⟨-, -, -, -, -, -, -, h8, h9, h10⟩, hbs⟩ := hC
  rw [cv_x (h10 300 (by omega))]
  obtain ⟨⟨scr, e1, e2, e3, e4, e5⟩, f1, f2⟩ := h9
  exact W.alen hx hb (by rw [hS.2.1 _ f1 f2]; exact e1) e2 (by rw [e4]) rfl rfl hdg kk
theorem r_blen {n : Nat} (hC : CX p s m args c cc o nL D cy b xo L xs) (hS : va_S (AA b) s.heap H locs) (hn : 100 ≤ n ∧ n < 115) (hdg : decode cc pc = .ok (.arraylength, 1))
    (kk : W p l e R s m args below meth c H locs cells slots Qf (F0 m (pc + 1) rl (.int (Int32.ofNat (tN (n - 100))) :: st))) : W p l e R s m args below meth c H locs cells slots Qf (F0 m pc rl (cv b xo (.retAddr n) :: st)) := by
  obtain ⟨hx, hb, hml, hown, hts, hK, ⟨-, -, -, -, h5, -, -, h8, h9, h10⟩, hbs⟩ := hC
  rw [cv_x (h10 n (by omega))]
  obtain ⟨cell, e1, e2, e3, e4, e5, e6, e7⟩ := (h5.1 (n - 100) (by omega)).2.2.2.kept hS.2.1
  have hx2 : 100 + (n - 100) = n := by omega
  have e1 : H[xa0 xo (100 + (n - 100))]? = some cell := e1
  rw [hx2] at e1
  exact W.alen hx hb e1 e2 e5 rfl rfl hdg kk
theorem r_bald {n : Nat} {i : Int32} (hC : CX p s m args c cc o nL D cy b xo L xs) (hS : va_S (AA b) s.heap H locs) (hn : 100 ≤ n ∧ n < 115) (hin : vp_in i (tN (n - 100))) (hdg : decode cc pc = .ok (.baload, 1))
    (kk : W p l e R s m args below meth c H locs cells slots Qf (F0 m (pc + 1) rl (.int (tB (n - 100) i.toNatClampNeg) :: st))) : W p l e R s m args below meth c H locs cells slots Qf (F0 m pc rl (.int i :: cv b xo (.retAddr n) :: st)) := by
  obtain ⟨hx, hb, hml, hown, hts, hK, ⟨-, -, -, -, h5, -, -, h8, h9, h10⟩, hbs⟩ := hC
  have hlt : i.toNatClampNeg < tN (n - 100) := Nat.not_le.mp fun q => hin (Or.inr q)
  have h0 : ¬ i < 0 := fun q => hin (Or.inl q)
  rw [cv_x (h10 n (by omega))]
  obtain ⟨cell, e1, e2, e3, e4, e5, e6, e7⟩ := (h5.1 (n - 100) (by omega)).2.2.2.kept hS.2.1
  have hx2 : 100 + (n - 100) = n := by omega
  have e1 : H[xa0 xo (100 + (n - 100))]? = some cell := e1
  rw [hx2] at e1
  exact W.bald (v := .int (tB (n - 100) i.toNatClampNeg)) hx hb e1 e2 e3 (fun z => by rcases z with z | z; exact h0 z; exact absurd (Nat.lt_of_lt_of_le hlt e4) (Nat.not_lt.mpr z)) (e6 _ hlt) rfl rfl hdg kk
theorem r_xval {i x : Nat} (hC : CX p s m args c cc o nL D cy b xo L xs) (hS : va_S (AA b) s.heap H locs) (hi : i < 15) (hl : Cond.fieldLink (on o) x "java/lang/String" "value" "[B" ∈ gT) (hdg : decode cc pc = .ok (.getfield x, 3))
    (kk : W p l e R s m args below meth c H locs cells slots Qf (F0 m (pc + 3) rl (cv b xo (.retAddr (100 + i)) :: st))) : W p l e R s m args below meth c H locs cells slots Qf (F0 m pc rl (cv b xo (.retAddr i) :: st)) := by
  obtain ⟨hx, hb, hml, hown, hts, hK, ⟨-, -, -, -, h5, -, -, h8, h9, h10⟩, hbs⟩ := hC
  rw [cv_x (h10 (100 + i) (by omega))] at kk
  rw [cv_x (h10 i (by omega))]
  exact vk_getf hx hb (h5.1 i hi).2.2.1 hS hown (hts _ hl) (fun _ h => h) hdg kk
theorem r_xcod {i x : Nat} (hC : CX p s m args c cc o nL D cy b xo L xs) (hS : va_S (AA b) s.heap H locs) (hi : i < 15) (hl : Cond.fieldLink (on o) x "java/lang/String" "coder" "B" ∈ gT) (hdg : decode cc pc = .ok (.getfield x, 3))
    (kk : W p l e R s m args below meth c H locs cells slots Qf (F0 m (pc + 3) rl (.int 0 :: st))) : W p l e R s m args below meth c H locs cells slots Qf (F0 m pc rl (cv b xo (.retAddr i) :: st)) := by
  obtain ⟨hx, hb, hml, hown, hts, hK, ⟨-, -, -, -, h5, -, -, h8, h9, h10⟩, hbs⟩ := hC
  rw [cv_x (h10 i (by omega))]
  exact vk_getf hx hb (h5.1 i hi).2.1 hS hown (hts _ hl) (fun _ h => h) hdg kk
theorem r_gets {n x : Nat} {v : Value} (hC : CX p s m args c cc o nL D cy b xo L xs) (hS : va_S (AA b) s.heap H locs) (hZ : va_Z (gs n).1 (gs n).2.1 (gs n).2.2 v (AA b) s s.heap) (hl : (∃ q ∈ GS, q.1 = (o, x, n)) ∨ ∃ q ∈ GN, q.1 = (o, x, n)) (hdg : decode cc pc = .ok (.getstatic x, 3))
    (kk : W p l e R s m args below meth c H locs cells slots Qf (F0 m (pc + 3) rl (v :: st))) : W p l e R s m args below meth c H locs cells slots Qf (F0 m pc rl st) := by
  obtain ⟨hx, hb, hml, hown, hts, hK, ⟨-, h2, -⟩, hbs⟩ := hC
  rcases hl with ⟨q, hq, e1⟩ | ⟨q, hq, e1⟩
  · have h := GS_ok q hq
    rw [e1] at h
    exact va_gets hx hb hZ hS hown (hts _ h) (fun _ h => h) hdg kk
  · have h := h2 q hq
    rw [e1] at h
    exact va_getsN hx hb hZ hS hown (va_Nw.use rfl h) (fun _ h => h) hdg kk
theorem r_str {n x : Nat} (hC : CX p s m args c cc o nL D cy b xo L xs) (hn : n < 15) (hl : ∃ q ∈ SK, q.1 = (o, x, n)) (hdg : decode cc pc = .ok (.ldc x, 2))
    (kk : W p l e R s m args below meth c H locs cells slots Qf (F0 m (pc + 2) rl (cv b xo (.retAddr n) :: st))) : W p l e R s m args below meth c H locs cells slots Qf (F0 m pc rl st) := by
  obtain ⟨hx, hb, hml, hown, hts, hK, ⟨-, -, -, h4, -, -, -, -, -, h10⟩, hbs⟩ := hC
  obtain ⟨q, hq, e1⟩ := hl
  have h := h4 q hq
  rw [e1] at h
  rw [cv_x (h10 n (by omega))] at kk
  exact va_ldcS hx hb hown h hdg kk
theorem r_alen {a : Nat} (hC : CX p s m args c cc o nL D cy b xo L xs) (hW : WR D cy b M H) (hk : 13 ≤ mK M a ∧ mK M a < 19) (hdg : decode cc pc = .ok (.arraylength, 1))
    (kk : W p l e R s m args below meth c H locs cells slots Qf (F0 m (pc + 1) rl (.int (Int32.ofNat (mN M a)) :: st))) : W p l e R s m args below meth c H locs cells slots Qf (F0 m pc rl (cv b xo (.ref a) :: st)) := by
  obtain ⟨hx, hb, hml, hown, hts, hK, hE, hbs⟩ := hC
  obtain ⟨ha, hc⟩ := hW.ar (ci := mK M a) rfl (by omega) hk.2
  rw [cv_r ha]
  have hcase : mK M a = 13 ∨ mK M a = 14 ∨ mK M a = 15 ∨ mK M a = 16 ∨ mK M a = 17 ∨ mK M a = 18 := by omega
  rcases hcase with h | h | h | h | h | h <;> rw [h] at hc
  · exact W.alen hx hb hc ((hK.2 0 _ rfl).1 _ _) (by rw [arrV_size]) rfl rfl hdg kk
  · exact W.alen hx hb hc ((hK.2 1 _ rfl).1 _ _) (by rw [arrV_size]) rfl rfl hdg kk
  · exact W.alen hx hb hc ((hK.2 2 _ rfl).1 _ _) (by rw [arrV_size]) rfl rfl hdg kk
  · exact W.alen hx hb hc ((hK.2 3 _ rfl).1 _ _) (by rw [arrV_size]) rfl rfl hdg kk
  · exact W.alen hx hb hc ((hK.2 4 _ rfl).1 _ _) (by rw [arrV_size]) rfl rfl hdg kk
  · exact W.alen hx hb hc ((hK.2 5 _ rfl).1 _ _) (by rw [arrV_size]) rfl rfl hdg kk
end
end
section
theorem FL_in {o x n : Nat} (h : (o, x, n) ∈ FLs) : fFL (o, x, n) ∈ gT := by
  obtain ⟨q, hq, e⟩ := List.mem_map.mp h
  have h1 := FL_ok q hq
  rw [e] at h1
  exact h1
theorem CK_in {o x n : Nat} (h : (o, x, n) ∈ CKs) : fCK (o, x, n) ∈ gT := by
  obtain ⟨q, hq, e⟩ := List.mem_map.mp h
  have h1 := CK_ok q hq
  rw [e] at h1
  exact h1
theorem LK_in {o x : Nat} {n : Int} (h : (o, x, n) ∈ LKs) : fLK (o, x, n) ∈ gT := by
  obtain ⟨q, hq, e⟩ := List.mem_map.mp h
  have h1 := LK_ok q hq
  rw [e] at h1
  exact h1
theorem IK_in {o x : Nat} {n : Int} (h : (o, x, n) ∈ IKs) : fIK (o, x, n) ∈ gT := by
  obtain ⟨q, hq, e⟩ := List.mem_map.mp h
  have h1 := IK_ok q hq
  rw [e] at h1
  exact h1
theorem ck_get {o n : Nat} {ini : Bool} {raw : Instr} (h : ck o ini (.getfield n) raw = true) : ∃ x, raw = .getfield x ∧ (o, x, n) ∈ FLs ∧ (n = 1000 ∨ n = 1001 ∨ (n / 64 < 13 ∧ n % 64 < (ftT (n / 64)).length)) := by
  cases raw with
  | getfield x =>
    refine ⟨x, rfl, ?_⟩
    simp only [ck, Bool.and_eq_true, Bool.or_eq_true, List.contains_iff_mem, decide_eq_true_eq, beq_iff_eq] at h
    refine ⟨h.1, ?_⟩
    rcases h.2 with (h | h) | h
    · exact Or.inl h
    · exact Or.inr (Or.inl h)
    · exact Or.inr (Or.inr h)
  | _ => exact absurd (show false = true from h) Bool.false_ne_true
theorem ck_put {o n : Nat} {ini : Bool} {raw : Instr} (h : ck o ini (.putfield n) raw = true) : ∃ x, raw = .putfield x ∧ (o, x, n) ∈ FLs ∧ n / 64 < 13 ∧ n % 64 < (ftT (n / 64)).length ∧ ((cT (n / 64) (n % 64)).2.2.2 = false ∨ (ini = true ∧ (cT (n / 64) (n % 64)).1 = on o)) := by
  cases raw with
  | putfield x =>
    refine ⟨x, rfl, ?_⟩
    simp only [ck, Bool.and_eq_true, Bool.or_eq_true, List.contains_iff_mem, decide_eq_true_eq, Bool.not_eq_true'] at h
    exact ⟨h.1.1, h.1.2.1, h.1.2.2, h.2⟩
  | _ => exact absurd (show false = true from h) Bool.false_ne_true
theorem ck_sta {o n : Nat} {ini : Bool} {raw : Instr} (h : ck o ini (.getstatic n) raw = true) : ∃ x, raw = .getstatic x ∧ ((∃ q ∈ GS, q.1 = (o, x, n)) ∨ ∃ q ∈ GN, q.1 = (o, x, n)) := by
  cases raw with
  | getstatic x =>
    refine ⟨x, rfl, ?_⟩
    simp only [ck, Bool.or_eq_true, List.contains_iff_mem] at h
    rcases h with h | h
    · obtain ⟨q, hq, e⟩ := List.mem_map.mp h
      exact Or.inl ⟨q, hq, e⟩
    · obtain ⟨q, hq, e⟩ := List.mem_map.mp h
      exact Or.inr ⟨q, hq, e⟩
  | _ => exact absurd (show false = true from h) Bool.false_ne_true
theorem ck_new {o n : Nat} {ini : Bool} {raw : Instr} (h : ck o ini (.new n) raw = true) : ∃ x, raw = .new x ∧ (o, x, n) ∈ CKs ∧ n < 13 := by
  cases raw with
  | new x =>
    simp only [ck, Bool.and_eq_true, List.contains_iff_mem, decide_eq_true_eq] at h
    exact ⟨x, rfl, h.1, h.2⟩
  | _ => exact absurd (show false = true from h) Bool.false_ne_true
theorem ck_anew {o n : Nat} {ini : Bool} {raw : Instr} (h : ck o ini (.anewarray n) raw = true) : ∃ x, raw = .anewarray x ∧ ((n = 17 ∧ (o, x, 0) ∈ CKs) ∨ (n = 18 ∧ (o, x, 9) ∈ CKs)) := by
  cases raw with
  | anewarray x =>
    simp only [ck, Bool.and_eq_true, Bool.or_eq_true, List.contains_iff_mem, beq_iff_eq] at h
    exact ⟨x, rfl, h⟩
  | _ => exact absurd (show false = true from h) Bool.false_ne_true
theorem ck_l2 {o : Nat} {v : Int} {ini : Bool} {raw : Instr} (h : ck o ini (.jsr v) raw = true) : ∃ x, raw = .ldc2_w x ∧ (o, x, v) ∈ LKs := by
  cases raw with
  | ldc2_w x =>
    simp only [ck, List.contains_iff_mem] at h
    exact ⟨x, rfl, h⟩
  | _ => exact absurd (show false = true from h) Bool.false_ne_true
theorem ck_li {o : Nat} {v : Int} {ini : Bool} {raw : Instr} (h : ck o ini (.goto_w v) raw = true) : ∃ x, raw = .ldc x ∧ (o, x, v) ∈ IKs := by
  cases raw with
  | ldc x =>
    simp only [ck, List.contains_iff_mem] at h
    exact ⟨x, rfl, h⟩
  | _ => exact absurd (show false = true from h) Bool.false_ne_true
theorem ck_lw {o : Nat} {v : Int} {ini : Bool} {raw : Instr} (h : ck o ini (.jsr_w v) raw = true) : ∃ x, raw = .ldc_w x ∧ (o, x, v) ∈ IKs := by
  cases raw with
  | ldc_w x =>
    simp only [ck, List.contains_iff_mem] at h
    exact ⟨x, rfl, h⟩
  | _ => exact absurd (show false = true from h) Bool.false_ne_true
theorem ck_str {o n : Nat} {ini : Bool} {raw : Instr} (h : ck o ini (.ret n) raw = true) : ∃ x, raw = .ldc x ∧ ∃ q ∈ SK, q.1 = (o, x, n) := by
  cases raw with
  | ldc x =>
    simp only [ck, List.contains_iff_mem] at h
    obtain ⟨q, hq, e⟩ := List.mem_map.mp h
    exact ⟨x, rfl, q, hq, e⟩
  | _ => exact absurd (show false = true from h) Bool.false_ne_true
section
variable {p : Program} {l : Launch} {e : Env} {R : Room} {s : State} {m : MethodId} {args : Array Value} {below : List Frame} {meth : Method} {c : Code} {H : Heap} {locs : List Loc} {cells slots : Nat} {Qf : State → Prop} {cc : ByteArray} {pc : Nat} {rl : Array Slot} {o nL : Nat} {D : va_G} {cy : Nat → ClassId} {b : Nat} {xo : Nat → Option Nat} {L : Nat} {xs : Nat → Int32}
theorem Wc {n1 n2 : Nat} {g : JFrame} (w : W p l e R s m args below meth c H locs n1 n2 Qf g) (h1 : n1 = cells) (h2 : n2 = slots) : W p l e R s m args below meth c H locs cells slots Qf g := by subst h1; subst h2; exact w
theorem hx_W {i raw : Instr} {g : Prop} {st st' : List Value} {M M' : mm_M} {ini : Bool} (hC : CX p s m args c cc o nL D cy b xo L xs) (hW : WR D cy b M H) (hS : va_S (AA b) s.heap H locs) (hi : hx L xs i st M = some (g, st', M')) (hg : g) (hck : ck o ini i raw = true) (hini : ini = true → meth.name = "<init>") (hdg : decode cc pc = .ok (raw, iln i)) (hc1 : cells + (mS M' - mS M) ≤ R.cells) (hc2 : slots + (mW M' - mW M) ≤ R.slots)
    (kk : ∀ (H1 : Heap) (locs1 : List Loc), WR D cy b M' H1 → va_S (AA b) s.heap H1 locs1 → W p l e R s m args below meth c H1 locs1 (cells + (mS M' - mS M)) (slots + (mW M' - mW M)) Qf (F0 m (pc + iln i) rl (st'.map (cv b xo)))) : W p l e R s m args below meth c H locs cells slots Qf (F0 m pc rl (st.map (cv b xo))) := by
  have z0 : ∀ n k : Nat, n + (k - k) = n := fun n k => by omega
  have hex := hC.1
  have hb := hC.2.1
  have hown := hC.2.2.2.1
  have hts := hC.2.2.2.2.1
  unfold hx at hi
  split at hi
  · split at hi
    · cases hi
      have hr : raw = .idiv := of_decide_eq_true hck
      subst hr
      exact lv_idiv hex hb hdg hg (Wc (kk H locs hW hS) (z0 _ _) (z0 _ _))
    · cases hi
  · split at hi
    · cases hi
      have hr : raw = .irem := of_decide_eq_true hck
      subst hr
      exact lv_irem hex hb hdg hg (Wc (kk H locs hW hS) (z0 _ _) (z0 _ _))
    · cases hi
  · split at hi
    · cases hi
      have hr : raw = .ldiv := of_decide_eq_true hck
      subst hr
      exact lv_ldiv hex hb hdg hg (Wc (kk H locs hW hS) (z0 _ _) (z0 _ _))
    · cases hi
  · split at hi
    · cases hi
      have hr : raw = .lrem := of_decide_eq_true hck
      subst hr
      exact lv_lrem hex hb hdg hg (Wc (kk H locs hW hS) (z0 _ _) (z0 _ _))
    · cases hi
  · cases hi
    obtain ⟨x, rfl, h1⟩ := ck_l2 hck
    exact lv_ldc2 hex hb hown (hts _ (LK_in h1)) hdg (Wc (kk H locs hW hS) (z0 _ _) (z0 _ _))
  · cases hi
    obtain ⟨x, rfl, h1⟩ := ck_li hck
    exact lv_ldc hex hb hown (hts _ (IK_in h1)) hdg (Wc (kk H locs hW hS) (z0 _ _) (z0 _ _))
  · cases hi
    obtain ⟨x, rfl, h1⟩ := ck_lw hck
    exact lv_ldcw hex hb hown (hts _ (IK_in h1)) hdg (Wc (kk H locs hW hS) (z0 _ _) (z0 _ _))
  · cases hi
    obtain ⟨x, rfl, h1⟩ := ck_str hck
    exact r_str hC hg h1 hdg (Wc (kk H locs hW hS) (z0 _ _) (z0 _ _))
  · rename_i n
    obtain ⟨x, rfl, h1⟩ := ck_sta hck
    split at hi
    · rename_i hn
      subst hn
      cases hi
      exact r_gets hC hS (n := 0) hC.2.2.2.2.2.2.1.2.2.2.2.2.1 h1 hdg (Wc (kk H locs hW hS) (z0 _ _) (z0 _ _))
    · cases hi
      exact r_gets hC hS (hC.2.2.2.2.2.2.1.2.2.2.2.2.2.1 n hg) h1 hdg (Wc (kk H locs hW hS) (z0 _ _) (z0 _ _))
  · rename_i n
    obtain ⟨x, rfl, h1, h2⟩ := ck_get hck
    split at hi
    · rename_i a st
      split at hi
      · cases hi
      rename_i hbig
      have main : ∀ v : Value, mK M a = n / 64 → cv b xo v = fv b M (n / 64) a (n % 64) → W p l e R s m args below meth c H locs cells slots Qf (F0 m (pc + 3) rl (cv b xo v :: st.map (cv b xo))) → W p l e R s m args below meth c H locs cells slots Qf (F0 m pc rl (cv b xo (.ref a) :: st.map (cv b xo))) := by
        intro v hk hv kk1
        have hr : n / 64 < 13 ∧ n % 64 < (ftT (n / 64)).length := by
          rcases h2 with h2 | h2 | h2
          · omega
          · omega
          · exact h2
        have hl := FL_in h1
        have e1 : fr n = ((cT (n / 64) (n % 64)).1, (cT (n / 64) (n % 64)).2.1, (cT (n / 64) (n % 64)).2.2.1) := by
          unfold fr
          rw [if_neg (by omega), if_neg (by omega)]
        unfold fFL at hl
        rw [e1] at hl
        rw [hv] at kk1
        exact r_get hC hW hk hr.1 hr.2 hl hdg kk1
      split at hi
      · rename_i hf
        cases hi
        exact main _ hg (by unfold fv; rw [if_pos hf]; rfl) (Wc (kk H locs hW hS) (z0 _ _) (z0 _ _))
      · rename_i hf
        split at hi
        · rename_i hf2
          cases hi
          exact main _ hg (by unfold fv; rw [if_neg hf, if_pos hf2]; rfl) (Wc (kk H locs hW hS) (z0 _ _) (z0 _ _))
        · rename_i hf2
          cases hi
          exact main _ hg (by unfold fv; rw [if_neg hf, if_neg hf2]; rfl) (Wc (kk H locs hW hS) (z0 _ _) (z0 _ _))
    · rename_i i st
      split at hi
      · rename_i hn
        subst hn
        cases hi
        exact r_xval hC hS hg (FL_in h1) hdg (Wc (kk H locs hW hS) (z0 _ _) (z0 _ _))
      · cases hi
        obtain ⟨hg1, hg2⟩ := hg
        subst hg2
        exact r_xcod hC hS hg1 (FL_in h1) hdg (Wc (kk H locs hW hS) (z0 _ _) (z0 _ _))
    · cases hi
  · rename_i n
    obtain ⟨x, rfl, h1, h2, h3, h4⟩ := ck_put hck
    have hl := FL_in h1
    have e1 : fr n = ((cT (n / 64) (n % 64)).1, (cT (n / 64) (n % 64)).2.1, (cT (n / 64) (n % 64)).2.2.1) := by
      unfold fr
      rw [if_neg (by omega), if_neg (by omega)]
    unfold fFL at hl
    rw [e1] at hl
    have hfin : (cT (n / 64) (n % 64)).2.2.2 = false ∨ (meth.name = "<init>" ∧ (cT (n / 64) (n % 64)).1 = on o) := h4.imp id (fun q => ⟨hini q.1, q.2⟩)
    have hty := cL_ft _ h2 _ h3
    split at hi
    · rename_i v a st
      split at hi
      · rename_i hf
        cases hi
        have hy : cY (n / 64) (n % 64) = .int := by
          rcases hty with q | q | q | q <;> first | exact q.2 | (have := q.1; omega)
        refine r_put hC hW hS hg h2 h3 hl hfin (v := .int v) (by rw [hy]; rfl) (by rw [hy]; rfl) hdg (fun H1 locs1 z oq hO hs => ?_)
        exact Wc (kk H1 locs1 (p_I hW hg h2 (by omega) (by omega) z oq hO) hs) (z0 _ (mS M)) (z0 _ (mW M))
      · rename_i hf
        cases hi
        obtain ⟨hg1, hg2, hg3, hg4⟩ := hg
        have hy : cY (n / 64) (n % 64) = .char := by
          rcases hty with q | q | q | q <;> first | exact q.2 | (have := q.1; omega)
        refine r_put hC hW hS hg1 h2 h3 hl hfin (v := .int v) (by rw [hy]; exact hg3) (by rw [hy]; exact hg4) hdg (fun H1 locs1 z oq hO hs => ?_)
        exact Wc (kk H1 locs1 (p_I hW hg1 h2 (by omega) (by omega) z oq hO) hs) (z0 _ (mS M)) (z0 _ (mW M))
    · rename_i v a st
      cases hi
      obtain ⟨hg1, hg2⟩ := hg
      have hy : cY (n / 64) (n % 64) = .long := by
        rcases hty with q | q | q | q <;> first | exact q.2 | (have := q.1; omega)
      refine r_put hC hW hS hg1 h2 h3 hl hfin (v := .long v) (by rw [hy]; rfl) (by rw [hy]; rfl) hdg (fun H1 locs1 z oq hO hs => ?_)
      exact Wc (kk H1 locs1 (p_J hW hg1 h2 hg2 z oq hO) hs) (z0 _ (mS M)) (z0 _ (mW M))
    · rename_i v a st
      cases hi
      obtain ⟨hg1, hg2, hg3⟩ := hg
      have hy : isR (cY (n / 64) (n % 64)) = true := by
        rcases hty with q | q | q | q <;> first | exact q.2 | (have := q.1; omega)
      have hv : cv b xo (.ref v) = .ref (b + v) := cv_r hg3
      have hn1 : narrow (cY (n / 64) (n % 64)) (cv b xo (.ref v)) = cv b xo (.ref v) := by
        rw [hv]
        cases hq : cY (n / 64) (n % 64) <;> first | rfl | (rw [hq] at hy; cases hy)
      have hn2 : fits (cY (n / 64) (n % 64)) (cv b xo (.ref v)) = true := by
        rw [hv]
        cases hq : cY (n / 64) (n % 64) <;> first | rfl | (rw [hq] at hy; cases hy)
      refine r_put hC hW hS hg1 h2 h3 hl hfin (v := cv b xo (.ref v)) hn1 hn2 hdg (fun H1 locs1 z oq hO hs => ?_)
      exact Wc (kk H1 locs1 (p_R hW hg1 h2 hg2 z oq hO) hs) (z0 _ (mS M)) (z0 _ (mW M))
    · cases hi
  · have hr : raw = .arraylength := of_decide_eq_true hck
    subst hr
    split at hi
    · cases hi
      exact r_alen hC hW hg hdg (Wc (kk H locs hW hS) (z0 _ _) (z0 _ _))
    · split at hi
      · rename_i hn
        subst hn
        cases hi
        exact r_xlen hC hS hdg (Wc (kk H locs hW hS) (z0 _ _) (z0 _ _))
      · cases hi
        exact r_blen hC hS hg hdg (Wc (kk H locs hW hS) (z0 _ _) (z0 _ _))
    · cases hi
  · have hr : raw = .iaload := of_decide_eq_true hck
    subst hr
    split at hi
    · cases hi
      exact r_iald hC hW hg.1 hg.2 hdg (Wc (kk H locs hW hS) (z0 _ _) (z0 _ _))
    · cases hi
      exact r_xint hC hS hg.1 hg.2 hdg (Wc (kk H locs hW hS) (z0 _ _) (z0 _ _))
    · cases hi
  · have hr : raw = .laload := of_decide_eq_true hck
    subst hr
    split at hi
    · cases hi
      exact r_lald hC hW hg.1 hg.2 hdg (Wc (kk H locs hW hS) (z0 _ _) (z0 _ _))
    · cases hi
  · have hr : raw = .caload := of_decide_eq_true hck
    subst hr
    split at hi
    · cases hi
      exact r_cald hC hW hg.1 hg.2 hdg (Wc (kk H locs hW hS) (z0 _ _) (z0 _ _))
    · cases hi
  · have hr : raw = .baload := of_decide_eq_true hck
    subst hr
    split at hi
    · cases hi
      exact r_zald hC hW hg.1 hg.2 hdg (Wc (kk H locs hW hS) (z0 _ _) (z0 _ _))
    · cases hi
      exact r_bald hC hS hg.1 hg.2 hdg (Wc (kk H locs hW hS) (z0 _ _) (z0 _ _))
    · cases hi
  · have hr : raw = .aaload := of_decide_eq_true hck
    subst hr
    split at hi
    · cases hi
      rcases hg.1 with h | h
      · exact r_aaldF hC hW h hg.2 hdg (Wc (kk H locs hW hS) (z0 _ _) (z0 _ _))
      · exact r_aaldS hC hW h hg.2 hdg (Wc (kk H locs hW hS) (z0 _ _) (z0 _ _))
    · cases hi
  · have hr : raw = .iastore := of_decide_eq_true hck
    subst hr
    split at hi
    · cases hi
      exact r_iast hC hW hS hg.1 hg.2 hdg (fun H1 locs1 hw hs => Wc (kk H1 locs1 hw hs) (z0 _ (mS M)) (z0 _ (mW M)))
    · cases hi
  · have hr : raw = .lastore := of_decide_eq_true hck
    subst hr
    split at hi
    · cases hi
      exact r_last hC hW hS hg.1 hg.2 hdg (fun H1 locs1 hw hs => Wc (kk H1 locs1 hw hs) (z0 _ (mS M)) (z0 _ (mW M)))
    · cases hi
  · have hr : raw = .castore := of_decide_eq_true hck
    subst hr
    split at hi
    · cases hi
      exact r_cast hC hW hS hg.1 hg.2 hdg (fun H1 locs1 hw hs => Wc (kk H1 locs1 hw hs) (z0 _ (mS M)) (z0 _ (mW M)))
    · cases hi
  · have hr : raw = .bastore := of_decide_eq_true hck
    subst hr
    split at hi
    · cases hi
      exact r_zast hC hW hS hg.1 hg.2 hdg (fun H1 locs1 hw hs => Wc (kk H1 locs1 hw hs) (z0 _ (mS M)) (z0 _ (mW M)))
    · cases hi
  · have hr : raw = .aastore := of_decide_eq_true hck
    subst hr
    split at hi
    · cases hi
      rcases hg.1 with h | h
      · exact r_aastF hC hW hS h.1 h.2 hg.2 hdg (fun H1 locs1 hw hs => Wc (kk H1 locs1 hw hs) (z0 _ (mS M)) (z0 _ (mW M)))
      · exact r_aastS hC hW hS h.1 h.2 hg.2 hdg (fun H1 locs1 hw hs => Wc (kk H1 locs1 hw hs) (z0 _ (mS M)) (z0 _ (mW M)))
    · cases hi
  · cases hi
    rename_i n
    obtain ⟨x, rfl, h1, h2⟩ := ck_new hck
    have e1 : mS (nw M n 0 (ftT n).length) - mS M = 1 := by show mS M + 1 - mS M = 1; omega
    have e2 : mW (nw M n 0 (ftT n).length) - mW M = (ftT n).length := by show mW M + (ftT n).length - mW M = _; omega
    rw [e1] at hc1 kk
    rw [e2] at hc2 kk
    exact r_new hC hW hS h2 (CK_in h1) hc1 hc2 hdg (fun H1 hw hs => kk H1 locs hw hs)
  · rename_i t
    have hr : raw = .newarray t := of_decide_eq_true hck
    subst hr
    split at hi
    · cases hi
      rename_i n st
      have e1 : mS (nw M 13 n.toNatClampNeg n.toNatClampNeg) - mS M = 1 := by show mS M + 1 - mS M = 1; omega
      have e2 : mW (nw M 13 n.toNatClampNeg n.toNatClampNeg) - mW M = n.toNatClampNeg := by show mW M + n.toNatClampNeg - mW M = _; omega
      rw [e1] at hc1 kk
      rw [e2] at hc2 kk
      exact r_newa_char hC hW hS hg.1 hg.2 hc1 hc2 hdg (fun H1 hw hs => kk H1 locs hw hs)
    · cases hi
      rename_i n st
      have e1 : mS (nw M 14 n.toNatClampNeg n.toNatClampNeg) - mS M = 1 := by show mS M + 1 - mS M = 1; omega
      have e2 : mW (nw M 14 n.toNatClampNeg n.toNatClampNeg) - mW M = n.toNatClampNeg := by show mW M + n.toNatClampNeg - mW M = _; omega
      rw [e1] at hc1 kk
      rw [e2] at hc2 kk
      exact r_newa_int hC hW hS hg.1 hg.2 hc1 hc2 hdg (fun H1 hw hs => kk H1 locs hw hs)
    · cases hi
      rename_i n st
      have e1 : mS (nw M 15 n.toNatClampNeg n.toNatClampNeg) - mS M = 1 := by show mS M + 1 - mS M = 1; omega
      have e2 : mW (nw M 15 n.toNatClampNeg n.toNatClampNeg) - mW M = n.toNatClampNeg := by show mW M + n.toNatClampNeg - mW M = _; omega
      rw [e1] at hc1 kk
      rw [e2] at hc2 kk
      exact r_newa_long hC hW hS hg.1 hg.2 hc1 hc2 hdg (fun H1 hw hs => kk H1 locs hw hs)
    · cases hi
      rename_i n st
      have e1 : mS (nw M 16 n.toNatClampNeg n.toNatClampNeg) - mS M = 1 := by show mS M + 1 - mS M = 1; omega
      have e2 : mW (nw M 16 n.toNatClampNeg n.toNatClampNeg) - mW M = n.toNatClampNeg := by show mW M + n.toNatClampNeg - mW M = _; omega
      rw [e1] at hc1 kk
      rw [e2] at hc2 kk
      exact r_newa_boolean hC hW hS hg.1 hg.2 hc1 hc2 hdg (fun H1 hw hs => kk H1 locs hw hs)
    · cases hi
  · split at hi
    · rename_i k _ n st
      cases hi
      obtain ⟨x, rfl, h1⟩ := ck_anew hck
      have e1 : mS (nw M k n.toNatClampNeg n.toNatClampNeg) - mS M = 1 := by show mS M + 1 - mS M = 1; omega
      have e2 : mW (nw M k n.toNatClampNeg n.toNatClampNeg) - mW M = n.toNatClampNeg := by show mW M + n.toNatClampNeg - mW M = _; omega
      rw [e1] at hc1 kk
      rw [e2] at hc2 kk
      rcases h1 with ⟨rfl, h1⟩ | ⟨rfl, h1⟩
      · exact r_anewF hC hW hS (CK_in h1) hg.2.1 hg.2.2 hc1 hc2 hdg (fun H1 hw hs => kk H1 locs hw hs)
      · exact r_anewS hC hW hS (CK_in h1) hg.2.1 hg.2.2 hc1 hc2 hdg (fun H1 hw hs => kk H1 locs hw hs)
    · cases hi
  · cases hi
end
end
section
theorem sx_len {i : Instr} {ls st ls' st' : List Value} (h : sx i ls st = some (ls', st')) : ls'.length = ls.length := by
  unfold sx at h
  split at h
  all_goals first
    | (unfold ldI at h; split at h <;> cases h <;> rfl)
    | (unfold ldL at h; split at h <;> cases h <;> rfl)
    | (unfold ldA at h; split at h <;> (try split at h) <;> cases h <;> rfl)
    | (unfold soI at h; split at h <;> (try split at h) <;> cases h <;> exact st1_len _ _ _)
    | (unfold soL at h; split at h <;> (try split at h) <;> cases h <;> exact st2_len _ _ _)
    | (unfold soA at h; split at h <;> (try split at h) <;> cases h <;> exact st1_len _ _ _)
    | (unfold o1I at h; split at h <;> cases h <;> rfl)
    | (unfold o2I at h; split at h <;> cases h <;> rfl)
    | (unfold o1L at h; split at h <;> cases h <;> rfl)
    | (unfold o2L at h; split at h <;> cases h <;> rfl)
    | (unfold oLI at h; split at h <;> cases h <;> rfl)
    | (cases h; rfl)
    | (split at h <;> cases h <;> first | rfl | exact st1_len _ _ _)
    | cases h
section
variable {p : Program} {l : Launch} {e : Env} {R : Room} {s : State} {m : MethodId} {args : Array Value} {below : List Frame} {meth : Method} {c : Code} {H : Heap} {locs : List Loc} {cells slots : Nat} {Qf : State → Prop} {cc : ByteArray} {pc : Nat} {rl : Array Slot} {o nL : Nat} {D : va_G} {cy : Nat → ClassId} {b : Nat} {xo : Nat → Option Nat} {L : Nat} {xs : Nat → Int32} {M : mm_M} {st : List Value}
theorem nn_z {z : Int32} (hz : ¬ z < 0) : z.toInt = (z.toNatClampNeg : Int) := by
  have hz0 : (0 : Int) ≤ z.toInt := by
    have := Int32.not_lt.mp hz
    simpa using Int32.le_iff_toInt_le.mp this
  show z.toInt = ((z.toInt.toNat : Nat) : Int)
  omega
/-- rows are copied: the source's and the target's values by mk -/
theorem r_cpy {α : Type} (mk : α → Value) {ty : FieldType} {k : Nat} {a0 a x : Nat} {n0 n1 : Nat} {f g : Nat → α} {sp dp n : Int32} (hC : CX p s m args c cc o nL D cy b xo L xs) (hS : va_S (AA b) s.heap H locs) (h0 : H[b + a0]? = some (arrV (cy k) n0 (fun j => mk (f j)))) (h1 : H[b + a]? = some (arrV (cy k) n1 (fun j => mk (g j)))) (ha : a ≠ 0) (hT' : ArrOfT s (cy k) ty) (hprim : refKind ty = false) (hfit : ∀ z, fits ty (mk z) = true) (htk : ∀ (U : State) (dc : ClassId) (z : α), U.takes dc (mk z))
    (hsp : ¬ sp < 0) (hdp : ¬ dp < 0) (hn : ¬ n < 0) (h4 : sp.toNatClampNeg + n.toNatClampNeg ≤ n0) (h5 : dp.toNatClampNeg + n.toNatClampNeg ≤ n1) (hl : Cond.methodLink (on o) x arraycopyName ∈ gT) (hrl : rl.size = nL) (hframes : 1 ≤ R.frames) (hlocals : (st.map fun v => v.category).sum + (nativeFrameWords "java/lang/System" "arraycopy" 5 + 11) ≤ R.locals) (hdg : decode cc pc = .ok (.invokestatic x, 3))
    (kk : ∀ (H1 : Heap) (locs1 : List Loc), H1.size = H.size → (∀ q, q ≠ b + a → H1[q]? = H[q]?) → H1[b + a]? = some (arrV (cy k) n1 (fun j => mk (va_cpy f g sp.toNatClampNeg dp.toNatClampNeg n.toNatClampNeg j))) → va_S (AA b) s.heap H1 locs1 → W p l e R s m args below meth c H1 locs1 cells slots Qf (F0 m (pc + 3) rl st)) : W p l e R s m args below meth c H locs cells slots Qf (F0 m pc rl (.int n :: .int dp :: .ref (b + a) :: .int sp :: .ref (b + a0) :: st)) := by
  obtain ⟨hex, hb, hml, hown, hts, hK, hE, hbs⟩ := hC
  have hN := AN_ok
  have w1 : Cond.native arraycopyName ∈ gT := hN _ (List.mem_of_getElem? (i := 0) rfl)
  have w2 : Cond.static arraycopyName ∈ gT := hN _ (List.mem_of_getElem? (i := 1) rfl)
  have w3 : Cond.initialized "java/lang/System" ∈ gT := hN _ (List.mem_of_getElem? (i := 2) rfl)
  intro T hT X
  obtain ⟨-, k0, hk0, cm0, hkk0⟩ := hT' n0 (fun j => mk (f j))
  obtain ⟨vm', X', step⟩ := X.arraycopy hex hown (hts _ hl) (hts _ w1) (hts _ w2) (hts _ w3) (src := b + a0) (dst := b + a) (cs := arrV (cy k) n0 (fun j => mk (f j))) (cd := arrV (cy k) n1 (fun j => mk (g j))) (srcPos := sp) (destPos := dp) (n := n) (by rw [hT]; exact h0) (by rw [hT]; exact h1)
    (fun _ h => by cases h) (fun _ h => by cases h) (fun h => by cases h) (fun h => by cases h) hk0 hk0 hkk0 hkk0 (by simp [hprim]) hsp hdp hn
    (by rw [nn_z hsp, nn_z hn, arrV_size]; omega)
    (by rw [nn_z hdp, nn_z hn, arrV_size]; omega)
    (fun vm₁ _ i hi => by
      have e : (arrV (cy k) n0 (fun j => mk (f j))).slots.getD (sp.toNatClampNeg + i) .null = mk (f (sp.toNatClampNeg + i)) := by
        rw [Array.getD_eq_getD_getElem?, arrV_read _ _ (by omega)]
        rfl
      rw [e]
      exact ⟨hfit _, htk _ _ _⟩)
    (g := F0 m pc rl (.int n :: .int dp :: .ref (b + a) :: .int sp :: .ref (b + a0) :: st)) rfl (by rw [hml]; exact hrl) (rest := st) rfl (by rw [hb]; exact hdg) hframes (by show 2 * 0 + _ + _ ≤ _; omega)
  have e1 : copied (arrV (cy k) n0 (fun j => mk (f j))) (arrV (cy k) n1 (fun j => mk (g j))) sp dp n = arrV (cy k) n1 (fun j => mk (va_cpy f g sp.toNatClampNeg dp.toNatClampNeg n.toNatClampNeg j)) := va_copied mk (cy k) (cy k) f g h4
  rw [e1] at X' step
  have hlt : b + a < H.size := (Array.getElem?_eq_some_iff.mp h1).1
  have hheap : ((T.setVm vm').setCell (b + a) (arrV (cy k) n1 (fun j => mk (va_cpy f g sp.toNatClampNeg dp.toNatClampNeg n.toNatClampNeg j)))).heap = H.setIfInBounds (b + a) (arrV (cy k) n1 (fun j => mk (va_cpy f g sp.toNatClampNeg dp.toNatClampNeg n.toNatClampNeg j))) := by rw [← hT]; rfl
  have oq : ∀ q : Nat, q ≠ b + a → (H.setIfInBounds (b + a) (arrV (cy k) n1 (fun j => mk (va_cpy f g sp.toNatClampNeg dp.toNatClampNeg n.toNatClampNeg j))))[q]? = H[q]? := fun q hq => by simp [Array.getElem?_setIfInBounds, Ne.symm hq]
  have hAA : AA b (b + a) := show b < b + a by omega
  obtain ⟨t, a1, b1⟩ := kk _ _ (by simp) oq (by simp [Array.getElem?_setIfInBounds, hlt]) ⟨by simp; exact hS.1, fun q g1 g2 => by
      rw [oq q (fun e => g2 (by rw [e]; exact hAA))]
      exact hS.2.1 q g1 g2, fun q hq => by
      rcases List.mem_append.mp hq with h | h
      · exact hS.2.2 q h
      · obtain ⟨z, -, hz⟩ := List.mem_map.mp h
        rw [← hz]
        exact hAA⟩ _ hheap X'
  exact ⟨t, step t a1, b1⟩
end
end
section
/-! a method's contract out of a run of the small machine -/
theorem cls_all : ∀ j, j < 292 → (yy j).cls = on (ow j) ∧ ow j < 20 := by decide +kernel
theorem mls_all : ∀ j, j < 292 → ml j ≤ 40 := by decide +kernel
theorem ple_all : ∀ j, j < 292 → plainName (yy j).cls = true ∨ j = 286 ∨ j = 287 ∨ j = 288 := by decide +kernel
theorem pl_286 : plainFor (yy 286) = true := by decide +kernel
theorem pl_287 : plainFor (yy 287) = true := by decide +kernel
theorem pl_288 : plainFor (yy 288) = true := by decide +kernel
theorem plf_all {j : Nat} (h : j < 292) : plainFor (yy j) = true := by
  rcases ple_all j h with h | rfl | rfl | rfl
  · exact plainFor_of_name h
  · exact pl_286
  · exact pl_287
  · exact pl_288
theorem mh_all : ∀ j, j < 292 → (yy j).cls ≠ "java/lang/invoke/MethodHandle" ∧ (yy j).cls ≠ "java/lang/invoke/VarHandle" := by decide +kernel
theorem par_st : ∀ j ∈ SOs, (parseMethodDescriptor (yy j).desc).map (fun d => d.parameters.length) = some (ac j) := by decide +kernel
theorem par_in : ∀ j ∈ NOs, (parseMethodDescriptor (yy j).desc).map (fun d => d.parameters.length) = some (ac j - 1) ∧ 1 ≤ ac j := by decide +kernel
theorem SO_lt : ∀ j ∈ SOs, j ≠ 291 → j < 292 ∧ j ∈ coL := by decide +kernel
theorem NO_lt : ∀ j ∈ NOs, j < 292 ∧ j ∈ coL := by decide +kernel
theorem ini_rr : ∀ j ∈ NOs, (yy j).name = "<init>" → rr j = none := by decide +kernel
theorem kd_cls : ∀ j ∈ EOs, (kd j < 13 → (yy j).cls = on (kd j)) ∧ (kd j = 20 → (yy j).cls = "java/lang/String") := by decide +kernel
theorem SO_in {j : Nat} (h : j ∈ SOs) : Cond.static (yy j) ∈ gT := by
  obtain ⟨q, hq, rfl⟩ := List.mem_map.mp h
  exact SO_ok q hq
theorem NO_in {j : Nat} (h : j ∈ NOs) : Cond.instanceMethod (yy j) ∈ gT := by
  obtain ⟨q, hq, rfl⟩ := List.mem_map.mp h
  exact NO_ok q hq
theorem EO_in {j : Nat} (h : j ∈ EOs) : Cond.selects (yy j).cls (yy j) (yy j) ∈ gT := by
  obtain ⟨q, hq, rfl⟩ := List.mem_map.mp h
  exact EO_ok q hq
theorem ML_in {o x j : Nat} (h : (o, x, j) ∈ MLs) : Cond.methodLink (on o) x (yy j) ∈ gT := by
  obtain ⟨q, hq, e⟩ := List.mem_map.mp h
  have h1 := ML_ok q hq
  rw [e] at h1
  exact h1
theorem OB_in {o x : Nat} (h : (o, x) ∈ OBs) : Cond.methodLink (on o) x objectInit ∈ gT := by
  obtain ⟨q, hq, e⟩ := List.mem_map.mp h
  have h1 := OB_ok q hq
  rw [e] at h1
  exact h1
theorem AC_in {o x : Nat} (h : (o, x) ∈ ACs) : Cond.methodLink (on o) x arraycopyName ∈ gT := by
  obtain ⟨q, hq, e⟩ := List.mem_map.mp h
  have h1 := AC_ok q hq
  rw [e] at h1
  exact h1
def wJ (j : Nat) : List Cond := Cond.code (yy j) (bb j) (ml j) (rr j) :: gT
theorem wJ_good {j : Nat} (h : j ∈ coL) : GoodIn gT (wJ j) := by
  intro w hw
  rcases List.mem_cons.mp hw with rfl | hw
  · exact gT_good _ (CO_ok j h)
  · exact gT_good w hw
def rmJ (d : Nat) (M M1 : mm_M) : Room := { frames := d, cells := mS M1 - mS M, slots := mW M1 - mW M, locals := 60 * d }
def PcJ (D : va_G) (cy : Nat → ClassId) (b : Nat) (xo : Nat → Option Nat) (L : Nat) (xs : Nat → Int32) (a : List Value) (M : mm_M) : Array Value → State → Prop := fun v U => v = (a.map (cv b xo)).toArray ∧ WR D cy b M U.heap ∧ va_K D cL (tyL cy) U ∧ EXT xo L xs b U U.heap ∧ b < U.heap.size
def QcJ (D : va_G) (cy : Nat → ClassId) (b : Nat) (xo : Nat → Option Nat) (r : Option Value) (M1 : mm_M) : Array Value → State → Outcome → State → Prop := fun _ st oc t => oc = .returned (r.map (cv b xo)) ∧ WR D cy b M1 t.heap ∧ va_F (AA b) st t
def MC (l : Launch) (D : va_G) (cy : Nat → ClassId) (b : Nat) (xo : Nat → Option Nat) (L : Nat) (xs : Nat → Int32) (d j : Nat) (a : List Value) (M : mm_M) (r : Option Value) (M1 : mm_M) : Prop :=
  Met l (yy j) (wJ j) (rmJ d M M1) (PcJ D cy b xo L xs a M) (QcJ D cy b xo r M1) (mS M1 - mS M) (mW M1 - mW M) (AA b)
section
variable {p : Program} {l : Launch} {e : Env} {R : Room} {s : State} {m : MethodId} {args : Array Value} {below : List Frame} {meth : Method} {c : Code} {H : Heap} {locs : List Loc} {cells slots : Nat} {Qf : State → Prop} {cc : ByteArray} {pc : Nat} {rl : Array Slot} {o nL : Nat} {D : va_G} {cy : Nat → ClassId} {b : Nat} {xo : Nat → Option Nat} {L : Nat} {xs : Nat → Int32} {M M1 : mm_M} {st : List Value}
theorem PcJ_blind {a : List Value} : FrameBlind (PcJ D cy b xo L xs a M) := fun _ U g mk q => ⟨q.1, q.2.1, va_K.moved (u := U) (Vm.Alike.refl U.vm) q.2.2.1, EXT.vm rfl q.2.2.2.1, q.2.2.2.2⟩
theorem PcJ_at {a : List Value} (hC : CX p s m args c cc o nL D cy b xo L xs) (hW : WR D cy b M H) (hS : va_S (AA b) s.heap H locs) : ∀ U : State, U.heap = H → s.WarmedH U.vm → PcJ D cy b xo L xs a M (a.map (cv b xo)).toArray U := by
  intro U hU hw
  obtain ⟨hex, hb, hml, hown, hts, hK, hE, hbs⟩ := hC
  refine ⟨rfl, by rw [hU]; exact hW, va_K.moved hw.alike hK, ?_, by rw [hU]; exact Nat.lt_of_lt_of_le hbs hS.1⟩
  rw [hU]
  exact hE.to hw hS.1 hS.2.1
theorem r_ret {r : Option Value} {mc ms : Nat} {rest st0 : List Value} {av : Array Value} (hr : va_Run p l e R s m args below meth c H locs cells slots mc ms (F0 m pc rl st0) rest (QcJ D cy b xo r M1 av) (AA b)) (hS : va_S (AA b) s.heap H locs)
    (kk : ∀ (H1 : Heap) (locs1 : List Loc), WR D cy b M1 H1 → va_S (AA b) s.heap H1 locs1 → W p l e R s m args below meth c H1 locs1 (cells + mc) (slots + ms) Qf (F0 m (pc + 3) rl ((r.map (cv b xo)).toList ++ rest))) : W p l e R s m args below meth c H locs cells slots Qf (F0 m pc rl st0) := by
  intro T hT X
  obtain ⟨v, st₀, t, T', Lc, h0, X', hL, e1, e2, ⟨hv, hw, hz, hk⟩, st⟩ := hr T hT X
  cases hv
  rw [h0] at hz hk
  obtain ⟨t2, a1, b1⟩ := kk T'.heap (locs ++ Lc) (by rw [e1]; exact hw) ⟨Nat.le_trans hS.1 (by rw [e1]; exact hz), fun q h1 h2 => by rw [e1, hk q (Nat.lt_of_lt_of_le h1 hS.1) h2]; exact hS.2.1 q h1 h2, fun q hq => by
      rcases List.mem_append.mp hq with h | h
      · exact hS.2.2 q h
      · exact hL q h⟩ T' rfl X'
  exact ⟨t2, st t2 a1, b1⟩
theorem cats_cv (st : List Value) : ((st.map (cv b xo)).map fun v => v.category).sum = cats st := by
  unfold cats
  rw [List.map_map]
  congr 1
  apply List.map_congr_left
  intro v _
  exact cv_cat b xo v
theorem toL (r : Option Value) (rest : List Value) : (r.map (cv b xo)).toList ++ rest.map (cv b xo) = (r.toList ++ rest).map (cv b xo) := by
  cases r <;> simp
theorem r_callS {d j x : Nat} {a rest : List Value} {r : Option Value} (hC : CX p s m args c cc o nL D cy b xo L xs) (hW : WR D cy b M H) (hS : va_S (AA b) s.heap H locs) (hM : MC l D cy b xo L xs d j a M r M1) (hj : j ∈ SOs) (hj0 : j ≠ 291) (hl : (o, x, j) ∈ MLs) (hn : a.length = ac j) (hrl : rl.size = nL) (hct : cats rest ≤ 8) (hR1 : d + 1 ≤ R.frames) (hR2 : 60 * (d + 1) ≤ R.locals) (hc1 : cells + (mS M1 - mS M) ≤ R.cells) (hc2 : slots + (mW M1 - mW M) ≤ R.slots) (hdg : decode cc pc = .ok (.invokestatic x, 3))
    (kk : ∀ (H1 : Heap) (locs1 : List Loc), WR D cy b M1 H1 → va_S (AA b) s.heap H1 locs1 → W p l e R s m args below meth c H1 locs1 (cells + (mS M1 - mS M)) (slots + (mW M1 - mW M)) Qf (F0 m (pc + 3) rl ((r.toList ++ rest).map (cv b xo)))) : W p l e R s m args below meth c H locs cells slots Qf (F0 m pc rl ((a.reverse ++ rest).map (cv b xo))) := by
  obtain ⟨hlt, hco⟩ := SO_lt j hj hj0
  have hts := hC.2.2.2.2.1
  obtain ⟨hcl, how⟩ := cls_all j hlt
  have hml := mls_all j hlt
  have hini : (Cond.initialized (yy j).cls).before args s = true := by rw [hcl]; exact hts _ (IO_in how)
  refine r_ret (va_runS (As := a.map (cv b xo)) (rest := rest.map (cv b xo)) (n := ac j) (bytes := bb j) (maxL := ml j) (ret := rr j) ⟨hC.1, hC.2.1, hC.2.2.1, hC.2.2.2.1, hts⟩ hM ⟨callB_of (ac j) hts (wJ_good hco) rfl rfl rfl hini (hts _ (ML_in hl)) ⟨(mh_all j hlt).1, (mh_all j hlt).2, par_st j hj⟩ ⟨hR1, by show 8 + (ml j + 11) + 60 * d ≤ _; omega⟩, hts _ (SO_in hj)⟩ ⟨PcJ_blind, PcJ_at hC hW hS⟩ rfl (by rw [List.length_map]; exact hn) hrl (by rw [List.map_append, List.map_reverse]) (lv_room (by rw [cats_cv]; exact hct)) hdg ⟨hc1, hc2⟩) hS (fun H1 locs1 hw hs => ?_)
  rw [toL]
  exact kk H1 locs1 hw hs
theorem r_callV {d j x ra : Nat} {a rest : List Value} {r : Option Value} (hC : CX p s m args c cc o nL D cy b xo L xs) (hW : WR D cy b M H) (hS : va_S (AA b) s.heap H locs) (hM : MC l D cy b xo L xs d j (.ref ra :: a) M r M1) (hk : mK M ra = kd j) (hk2 : kd j < 13) (hj : j ∈ NOs) (hj2 : j ∈ EOs) (hl : (o, x, j) ∈ MLs) (hn : a.length + 1 = ac j) (hrl : rl.size = nL) (hct : cats rest ≤ 8) (hR1 : d + 1 ≤ R.frames) (hR2 : 60 * (d + 1) ≤ R.locals) (hc1 : cells + (mS M1 - mS M) ≤ R.cells) (hc2 : slots + (mW M1 - mW M) ≤ R.slots) (hdg : decode cc pc = .ok (.invokevirtual x, 3))
    (kk : ∀ (H1 : Heap) (locs1 : List Loc), WR D cy b M1 H1 → va_S (AA b) s.heap H1 locs1 → W p l e R s m args below meth c H1 locs1 (cells + (mS M1 - mS M)) (slots + (mW M1 - mW M)) Qf (F0 m (pc + 3) rl ((r.toList ++ rest).map (cv b xo)))) : W p l e R s m args below meth c H locs cells slots Qf (F0 m pc rl ((a.reverse ++ .ref ra :: rest).map (cv b xo))) := by
  obtain ⟨hlt, hco⟩ := NO_lt j hj
  have hts := hC.2.2.2.2.1
  have hK := hC.2.2.2.2.2.1
  obtain ⟨hcl, how⟩ := cls_all j hlt
  have hml := mls_all j hlt
  have hini : (Cond.initialized (yy j).cls).before args s = true := by rw [hcl]; exact hts _ (IO_in how)
  obtain ⟨hra, cellB, q1, q2, q3, -⟩ := hW.ob hk hk2
  have hkc := (kd_cls j hj2).1 hk2
  have ea : ((Value.ref ra :: a).map (cv b xo)) = .ref (b + ra) :: a.map (cv b xo) := by rw [List.map_cons, cv_r hra]
  have hpre := PcJ_at (a := .ref ra :: a) hC hW hS
  rw [ea] at hpre
  refine r_ret (va_runV (C := (yy j).cls) (b := b + ra) (As := a.map (cv b xo)) (rest := rest.map (cv b xo)) (n := ac j - 1) (bytes := bb j) (maxL := ml j) (ret := rr j) ⟨hC.1, hC.2.1, hC.2.2.1, hC.2.2.2.1, hts⟩ hM ⟨callB_of (ac j - 1) hts (wJ_good hco) rfl rfl rfl hini (hts _ (ML_in hl)) ⟨(mh_all j hlt).1, (mh_all j hlt).2, (par_in j hj).1⟩ ⟨hR1, by show 8 + (ml j + 11) + 60 * d ≤ _; omega⟩, hts _ (NO_in hj), hts _ (EO_in hj2)⟩ ⟨PcJ_blind, ⟨cellB, q1, by rw [q3]; rfl, by rw [q2, hkc]; exact (hK.1 _ _ (cL_at _ hk2)).2.1⟩, hpre⟩ rfl (by rw [List.length_map]; omega) hrl (by rw [List.map_append, List.map_reverse, List.map_cons, cv_r hra]) (lv_room (by rw [cats_cv]; exact hct)) hdg ⟨hc1, hc2⟩) hS (fun H1 locs1 hw hs => ?_)
  rw [toL]
  exact kk H1 locs1 hw hs
theorem r_callX {d j x i : Nat} {a rest : List Value} {r : Option Value} (hC : CX p s m args c cc o nL D cy b xo L xs) (hW : WR D cy b M H) (hS : va_S (AA b) s.heap H locs) (hM : MC l D cy b xo L xs d j (.retAddr i :: a) M r M1) (hi : i < 15) (hk2 : kd j = 20) (hj : j ∈ NOs) (hj2 : j ∈ EOs) (hl : (o, x, j) ∈ MLs) (hn : a.length + 1 = ac j) (hrl : rl.size = nL) (hct : cats rest ≤ 8) (hR1 : d + 1 ≤ R.frames) (hR2 : 60 * (d + 1) ≤ R.locals) (hc1 : cells + (mS M1 - mS M) ≤ R.cells) (hc2 : slots + (mW M1 - mW M) ≤ R.slots) (hdg : decode cc pc = .ok (.invokevirtual x, 3))
    (kk : ∀ (H1 : Heap) (locs1 : List Loc), WR D cy b M1 H1 → va_S (AA b) s.heap H1 locs1 → W p l e R s m args below meth c H1 locs1 (cells + (mS M1 - mS M)) (slots + (mW M1 - mW M)) Qf (F0 m (pc + 3) rl ((r.toList ++ rest).map (cv b xo)))) : W p l e R s m args below meth c H locs cells slots Qf (F0 m pc rl ((a.reverse ++ .retAddr i :: rest).map (cv b xo))) := by
  obtain ⟨hlt, hco⟩ := NO_lt j hj
  have hts := hC.2.2.2.2.1
  obtain ⟨hcl, how⟩ := cls_all j hlt
  have hml := mls_all j hlt
  have hini : (Cond.initialized (yy j).cls).before args s = true := by rw [hcl]; exact hts _ (IO_in how)
  have hkc := (kd_cls j hj2).2 hk2
  have hE := hC.2.2.2.2.2.2.1
  have hxi : cv b xo (.retAddr i) = .ref (xa0 xo i) := cv_x (hE.2.2.2.2.2.2.2.2.2 i (Or.inl hi))
  have ea : ((Value.retAddr i :: a).map (cv b xo)) = .ref (xa0 xo i) :: a.map (cv b xo) := by rw [List.map_cons, hxi]
  have hpre := PcJ_at (a := .retAddr i :: a) hC hW hS
  rw [ea] at hpre
  have hrc := vk_recv hE.2.2.2.2.1 hi hS
  refine r_ret (va_runV (C := (yy j).cls) (b := xa0 xo i) (As := a.map (cv b xo)) (rest := rest.map (cv b xo)) (n := ac j - 1) (bytes := bb j) (maxL := ml j) (ret := rr j) ⟨hC.1, hC.2.1, hC.2.2.1, hC.2.2.2.1, hts⟩ hM ⟨callB_of (ac j - 1) hts (wJ_good hco) rfl rfl rfl hini (hts _ (ML_in hl)) ⟨(mh_all j hlt).1, (mh_all j hlt).2, (par_in j hj).1⟩ ⟨hR1, by show 8 + (ml j + 11) + 60 * d ≤ _; omega⟩, hts _ (NO_in hj), hts _ (EO_in hj2)⟩ ⟨PcJ_blind, by rw [hkc]; exact hrc, hpre⟩ rfl (by rw [List.length_map]; omega) hrl (by rw [List.map_append, List.map_reverse, List.map_cons, hxi]) (lv_room (by rw [cats_cv]; exact hct)) hdg ⟨hc1, hc2⟩) hS (fun H1 locs1 hw hs => ?_)
  rw [toL]
  exact kk H1 locs1 hw hs
theorem r_callI {d j x ra : Nat} {a rest : List Value} {r : Option Value} (hC : CX p s m args c cc o nL D cy b xo L xs) (hW : WR D cy b M H) (hS : va_S (AA b) s.heap H locs) (hM : MC l D cy b xo L xs d j (.ref ra :: a) M r M1) (hra : ra ≠ 0) (hj : j ∈ NOs) (hnm : (yy j).name = "<init>") (hl : (o, x, j) ∈ MLs ∨ (o, x, j) ∈ MLNs) (hn : a.length + 1 = ac j) (hrl : rl.size = nL) (hct : cats rest ≤ 8) (hR1 : d + 1 ≤ R.frames) (hR2 : 60 * (d + 1) ≤ R.locals) (hc1 : cells + (mS M1 - mS M) ≤ R.cells) (hc2 : slots + (mW M1 - mW M) ≤ R.slots) (hdg : decode cc pc = .ok (.invokespecial x, 3))
    (kk : ∀ (H1 : Heap) (locs1 : List Loc), WR D cy b M1 H1 → va_S (AA b) s.heap H1 locs1 → W p l e R s m args below meth c H1 locs1 (cells + (mS M1 - mS M)) (slots + (mW M1 - mW M)) Qf (F0 m (pc + 3) rl ((r.toList ++ rest).map (cv b xo)))) : W p l e R s m args below meth c H locs cells slots Qf (F0 m pc rl ((a.reverse ++ .ref ra :: rest).map (cv b xo))) := by
  obtain ⟨hlt, hco⟩ := NO_lt j hj
  have hts := hC.2.2.2.2.1
  obtain ⟨hcl, how⟩ := cls_all j hlt
  have hml := mls_all j hlt
  have hini : (Cond.initialized (yy j).cls).before args s = true := by rw [hcl]; exact hts _ (IO_in how)
  have hrr := ini_rr j hj hnm
  have ea : ((Value.ref ra :: a).map (cv b xo)) = .ref (b + ra) :: a.map (cv b xo) := by rw [List.map_cons, cv_r hra]
  have hpre := PcJ_at (a := .ref ra :: a) hC hW hS
  rw [ea] at hpre
  have hd := par_in j hj
  have hfit : rmJ d M M1 = rmJ d M M1 := rfl
  have hw0 : wJ j = Cond.code (yy j) (bb j) (ml j) none :: gT := by unfold wJ; rw [hrr]
  rcases hl with hl | hl
  · refine r_ret (va_runI (b := b + ra) (As := a.map (cv b xo)) (rest := rest.map (cv b xo)) (n := ac j - 1) (bytes := bb j) (maxL := ml j) ⟨hC.1, hC.2.1, hC.2.2.1, hC.2.2.2.1, hts⟩ hM ⟨callB_of (ac j - 1) hts (wJ_good hco) hw0 rfl rfl hini (hts _ (ML_in hl)) ⟨(mh_all j hlt).1, (mh_all j hlt).2, hd.1⟩ ⟨hR1, by show 8 + (ml j + 11) + 60 * d ≤ _; omega⟩, hnm, hts _ (NO_in hj)⟩ ⟨PcJ_blind, hpre⟩ rfl (by rw [List.length_map]; omega) hrl (by rw [List.map_append, List.map_reverse, List.map_cons, cv_r hra]) (lv_room (by rw [cats_cv]; exact hct)) hdg ⟨hc1, hc2⟩) hS (fun H1 locs1 hw hs => ?_)
    rw [toL]
    exact kk H1 locs1 hw hs
  · obtain ⟨q, hq, e1⟩ := List.mem_map.mp hl
    have hnest := hC.2.2.2.2.2.2.1.1 q hq
    rw [e1] at hnest
    refine r_ret (va_runIN (host := "ShoeOrchard") (b := b + ra) (As := a.map (cv b xo)) (rest := rest.map (cv b xo)) (n := ac j - 1) (bytes := bb j) (maxL := ml j) ⟨hC.1, hC.2.1, hC.2.2.1, hC.2.2.2.1, hts⟩ hM ⟨va_cnB (ac j - 1) hts (wJ_good hco) hw0 rfl rfl hnest hini ⟨(mh_all j hlt).1, (mh_all j hlt).2, hd.1⟩ ⟨hR1, by show 8 + (ml j + 11) + 60 * d ≤ _; omega⟩, hnm, hts _ (NO_in hj)⟩ ⟨PcJ_blind, hpre⟩ rfl (by rw [List.length_map]; omega) hrl (by rw [List.map_append, List.map_reverse, List.map_cons, cv_r hra]) (lv_room (by rw [cats_cv]; exact hct)) hdg ⟨hc1, hc2⟩) hS (fun H1 locs1 hw hs => ?_)
    rw [toL]
    exact kk H1 locs1 hw hs
end
end
section
def jmpB : List Instr → Nat → Bool
  | [], _ => true
  | i :: t, pc => (match i with
    | .goto off => decide (0 ≤ (pc : Int) + off)
    | .ifCond _ off => decide (0 ≤ (pc : Int) + off)
    | .if_icmp _ off => decide (0 ≤ (pc : Int) + off)
    | .tableswitch d _ _ offs => decide (0 ≤ (pc : Int) + d) && offs.all (fun q => decide (0 ≤ (pc : Int) + q))
    | _ => true) && jmpB t (pc + ln i)
theorem tg_ok {pc : Nat} {off : Int} (h : 0 ≤ (pc : Int) + off) : (pc : Int) + off = (tg pc off : Int) := by
  unfold tg; omega
theorem ckB_cons {o : Nat} {ini : Bool} {cc : ByteArray} {i : Instr} {t : List Instr} {pc : Nat} (h : ckB o ini cc (i :: t) pc = true) : (i = .athrow ∨ ∃ raw n, decode cc pc = .ok (raw, n) ∧ ck o ini i raw = true ∧ ((∃ a b c d, i = .tableswitch a b c d) ∨ n = ln i)) ∧ ckB o ini cc t (pc + ln i) = true := by
  unfold ckB at h
  rw [Bool.and_eq_true] at h
  refine ⟨?_, h.2⟩
  have h1 := h.1
  split at h1
  · exact Or.inl rfl
  · right
    split at h1
    · rename_i raw n hd
      rw [Bool.and_eq_true] at h1
      refine ⟨raw, n, hd, h1.1, ?_⟩
      have h2 := h1.2
      split at h2
      · exact Or.inl ⟨_, _, _, _, rfl⟩
      · exact Or.inr (by simpa using h2)
    · cases h1
theorem sx_raw {o : Nat} {ini : Bool} {i raw : Instr} {ls st : List Value} {r : List Value × List Value} (h : sx i ls st = some r) (hc : ck o ini i raw = true) : raw = i ∧ ln i = iln i := by
  cases i <;> first | (exact ⟨of_decide_eq_true hc, rfl⟩) | (have h : none = some r := h; cases h)
theorem hx_ln {L : Nat} {xs : Nat → Int32} {i : Instr} {st : List Value} {M : mm_M} {r : Prop × List Value × mm_M} (h : hx L xs i st M = some r) : ln i = iln i := by
  cases i <;> first | rfl | (have h : none = some r := h; cases h)
set_option maxRecDepth 20000 in
theorem obj_code : Cond.code objectInit ⟨#[0xb1]⟩ 1 none ∈ gT := gt_1 (List.mem_of_getElem? (i := 34) rfl) rfl
section
variable {p : Program} {l : Launch} {e : Env} {R : Room} {s : State} {m : MethodId} {args : Array Value} {below : List Frame} {meth : Method} {c : Code} {Qf : State → Prop} {cc : ByteArray} {o nL : Nat} {D : va_G} {cy : Nat → ClassId} {b : Nat} {xo : Nat → Option Nat} {L : Nat} {xs : Nat → Int32}
def WS (p : Program) (l : Launch) (e : Env) (R : Room) (s : State) (m : MethodId) (args : Array Value) (below : List Frame) (meth : Method) (c : Code) (Qf : State → Prop) (D : va_G) (cy : Nat → ClassId) (b : Nat) (xo : Nat → Option Nat) (z0 w0 : Nat) (M : mm_M) (pc : Nat) (ls st : List Value) : Prop :=
  ∀ (H : Heap) (locs : List Loc) (rl : Array Slot), WR D cy b M H → va_S (AA b) s.heap H locs → lv_has rl ls.length (pl b xo ls) → W p l e R s m args below meth c H locs (mS M - z0) (mW M - w0) Qf (F0 m pc rl (st.map (cv b xo)))
/-- where a method returns -/
def RQ (cc : ByteArray) (rt : Option FieldType) (v : Option Value) (pc : Nat) : Prop :=
  (∃ x ty, v = some (.int x) ∧ rt = some ty ∧ decode cc pc = .ok (.ireturn, 1) ∧ narrow ty (.int x) = .int x) ∨ (∃ x, v = some (.long x) ∧ rt = some .long ∧ decode cc pc = .ok (.lreturn, 1)) ∨ (v = none ∧ rt = none ∧ decode cc pc = .ok (.return_, 1))
/-- a static call of the law's own method, told beside -/
def LRr (p : Program) (l : Launch) (e : Env) (R : Room) (s : State) (m : MethodId) (args : Array Value) (below : List Frame) (meth : Method) (c : Code) (Qf : State → Prop) (cc : ByteArray) (o nL : Nat) (D : va_G) (cy : Nat → ClassId) (b : Nat) (xo : Nat → Option Nat) (E : Nat → List Value → mm_M → Option Value → mm_M → Prop) : Prop :=
  ∀ (x pc : Nat) (a rest : List Value) (M : mm_M) (r : Option Value) (M1 : mm_M) (H : Heap) (locs : List Loc) (rl : Array Slot) (cells slots : Nat), (o, x, 291) ∈ MLs → E 291 a M r M1 → WR D cy b M H → va_S (AA b) s.heap H locs → rl.size = nL → cats rest ≤ 8 → cells + (mS M1 - mS M) ≤ R.cells → slots + (mW M1 - mW M) ≤ R.slots → decode cc pc = .ok (.invokestatic x, 3) →
    (∀ (H1 : Heap) (locs1 : List Loc), WR D cy b M1 H1 → va_S (AA b) s.heap H1 locs1 → W p l e R s m args below meth c H1 locs1 (cells + (mS M1 - mS M)) (slots + (mW M1 - mW M)) Qf (F0 m (pc + 3) rl ((r.toList ++ rest).map (cv b xo)))) → W p l e R s m args below meth c H locs cells slots Qf (F0 m pc rl ((a.reverse ++ rest).map (cv b xo)))
theorem tk_dr {st : List Value} {n : Nat} : (st.take n).reverse.reverse ++ st.drop n = st := by rw [List.reverse_reverse, List.take_append_drop]
theorem dr_head {st tl : List Value} {v : Value} {n : Nat} (hn : 1 ≤ n) (h : st.drop (n - 1) = v :: tl) : (st.take n).reverse = v :: (st.take (n - 1)).reverse ∧ st.drop n = tl ∧ st = (st.take (n - 1)).reverse.reverse ++ v :: tl ∧ (st.take (n - 1)).reverse.length + 1 = n := by
  have hl : n - 1 < st.length := by
    rcases Nat.lt_or_ge (n - 1) st.length with q | q
    · exact q
    · rw [List.drop_eq_nil_of_le q] at h; cases h
  have h0 : st[n - 1]? = some v := by
    have : (st.drop (n - 1))[0]? = some v := by rw [h]; rfl
    rw [List.getElem?_drop] at this
    simpa using this
  have e1 : st.take n = st.take (n - 1) ++ [v] := by
    have e2 : n = n - 1 + 1 := by omega
    rw [e2, List.take_succ, h0]
    simp
  refine ⟨by rw [e1]; simp, ?_, ?_, ?_⟩
  · have e2 : n = (n - 1) + 1 := by omega
    have e3 : st.drop n = (st.drop (n - 1)).drop 1 := by rw [List.drop_drop]; congr 1
    rw [e3, h]
    rfl
  · rw [List.reverse_reverse, ← h, List.take_append_drop]
  · rw [List.length_reverse, List.length_take]
    omega
theorem bl_W {E : Nat → List Value → mm_M → Option Value → mm_M → Prop} {K : Nat → List Value → List Value → mm_M → Prop} {Q : Option Value → mm_M → Prop} {rt : Option FieldType} {z w z0 w0 d : Nat} {ini : Bool}
    (hC : CX p s m args c cc o nL D cy b xo L xs) (hini : ini = true → meth.name = "<init>") (hR1 : d + 1 ≤ R.frames) (hR2 : 60 * (d + 1) ≤ R.locals) (hR3 : z - z0 ≤ R.cells) (hR4 : w - w0 ≤ R.slots)
    (hE : ∀ j a M r M1, j ≠ 291 → E j a M r M1 → MC l D cy b xo L xs d j a M r M1) (hEz : ∀ j a M r M1, E j a M r M1 → mS M ≤ mS M1 ∧ mW M ≤ mW M1) (hLR : LRr p l e R s m args below meth c Qf cc o nL D cy b xo E)
    (hK : ∀ pc ls st M1, K pc ls st M1 → ls.length = nL → z0 ≤ mS M1 → w0 ≤ mW M1 → WS p l e R s m args below meth c Qf D cy b xo z0 w0 M1 pc ls st) (hKz : ∀ a b c M, K a b c M → mS M ≤ z ∧ mW M ≤ w) (hQz : ∀ v M, Q v M → mS M ≤ z ∧ mW M ≤ w)
    (hQ : ∀ v M1, Q v M1 → ∀ (H1 : Heap) (locs1 : List Loc) (rl1 : Array Slot) (pc1 : Nat), WR D cy b M1 H1 → va_S (AA b) s.heap H1 locs1 → RQ cc rt v pc1 → W p l e R s m args below meth c H1 locs1 (mS M1 - z0) (mW M1 - w0) Qf (F0 m pc1 rl1 (v.toList.map (cv b xo)))) :
    ∀ (t : List Instr) (pc : Nat) (ls st : List Value) (M : mm_M), ckB o ini cc t pc = true → jmpB t pc = true → bl L xs ac kd E rt K Q t pc ls st M → ls.length = nL → z0 ≤ mS M → w0 ≤ mW M → WS p l e R s m args below meth c Qf D cy b xo z0 w0 M pc ls st := by
  have hex := hC.1
  have hb := hC.2.1
  have hown := hC.2.2.2.1
  have hts := hC.2.2.2.2.1
  have hcat : ∀ (x y q : Nat), q ≤ x → x ≤ y → x - q + (y - x) = y - q := fun x y q h1 h2 => by omega
  intro t
  induction t with
  | nil => intro pc ls st M _ _ h hl h1 h2; exact hK _ _ _ _ h hl h1 h2
  | cons i t ih =>
    intro pc ls st M hck hjm h hl hz0 hw0
    have hsz := bl_size (z := z) (w := w) hEz hKz hQz (i :: t) pc ls st M h
    obtain ⟨hck1, hck2⟩ := ckB_cons hck
    unfold jmpB at hjm
    rw [Bool.and_eq_true] at hjm
    obtain ⟨hjm1, hjm2⟩ := hjm
    intro H locs rl hW hS hL
    have hrl : rl.size = nL := by rw [hL.1, hl]
    unfold bl at h
    split at h
    · -- goto
      rcases hck1 with hck1 | ⟨raw, n, hd, hr, hn⟩
      · cases hck1
      have hr : raw = _ := of_decide_eq_true hr
      subst hr
      rcases hn with ⟨_, _, _, _, hn⟩ | hn
      · cases hn
      subst hn
      exact lv_goto hex hb hd (tg_ok (of_decide_eq_true hjm1)) (hK _ _ _ _ h hl hz0 hw0 H locs rl hW hS hL)
    · -- ifCond
      rcases hck1 with hck1 | ⟨raw, n, hd, hr, hn⟩
      · cases hck1
      have hr : raw = _ := of_decide_eq_true hr
      subst hr
      rcases hn with ⟨_, _, _, _, hn⟩ | hn
      · cases hn
      subst hn
      have htg := tg_ok (of_decide_eq_true hjm1)
      split at h
      · rename_i cd off _ x st
        have kt : c0 cd x → W p l e R s m args below meth c H locs (mS M - z0) (mW M - w0) Qf (F0 m (tg pc off) rl (st.map (cv b xo))) := fun q => hK _ _ _ _ (h.1 q) hl hz0 hw0 H locs rl hW hS hL
        have kf : ¬ c0 cd x → W p l e R s m args below meth c H locs (mS M - z0) (mW M - w0) Qf (F0 m (pc + 3) rl (st.map (cv b xo))) := fun q => ih _ _ _ _ hck2 hjm2 (h.2 q) hl hz0 hw0 H locs rl hW hS hL
        cases cd with
        | eq => exact lv_if_eq hex hb hd htg kt kf
        | ne => exact lv_if_ne hex hb hd htg kt (fun q => kf (fun z => z q))
        | lt => exact lv_if_lt hex hb hd htg kt kf
        | ge => exact lv_if_ge hex hb hd htg kt kf
        | gt => exact lv_if_gt hex hb hd htg kt kf
        | le => exact lv_if_le hex hb hd htg kt kf
      · exact h.elim
    · -- if_icmp
      rcases hck1 with hck1 | ⟨raw, n, hd, hr, hn⟩
      · cases hck1
      have hr : raw = _ := of_decide_eq_true hr
      subst hr
      rcases hn with ⟨_, _, _, _, hn⟩ | hn
      · cases hn
      subst hn
      have htg := tg_ok (of_decide_eq_true hjm1)
      split at h
      · rename_i cd off _ y x st
        have kt : c2 cd x y → W p l e R s m args below meth c H locs (mS M - z0) (mW M - w0) Qf (F0 m (tg pc off) rl (st.map (cv b xo))) := fun q => hK _ _ _ _ (h.1 q) hl hz0 hw0 H locs rl hW hS hL
        have kf : ¬ c2 cd x y → W p l e R s m args below meth c H locs (mS M - z0) (mW M - w0) Qf (F0 m (pc + 3) rl (st.map (cv b xo))) := fun q => ih _ _ _ _ hck2 hjm2 (h.2 q) hl hz0 hw0 H locs rl hW hS hL
        cases cd with
        | eq => exact lv_icmp_eq hex hb hd htg kt kf
        | ne => exact lv_icmp_ne hex hb hd htg kt (fun q => kf (fun z => z q))
        | lt => exact lv_icmp_lt hex hb hd htg kt kf
        | ge => exact lv_icmp_ge hex hb hd htg kt kf
        | gt => exact lv_icmp_gt hex hb hd htg kt kf
        | le => exact lv_icmp_le hex hb hd htg kt kf
      · exact h.elim
    · -- tableswitch
      rcases hck1 with hck1 | ⟨raw, n, hd, hr, hn⟩
      · cases hck1
      have hr : raw = _ := of_decide_eq_true hr
      subst hr
      have hjm1 := (Bool.and_eq_true _ _ ▸ hjm1 : _ ∧ _)
      split at h
      · rename_i df lo hi offs _ _ x st
        by_cases hc : x.toInt < lo ∨ hi < x.toInt
        · exact lv_tableOut hex hb hd hc (tg_ok (of_decide_eq_true hjm1.1)) (hK _ _ _ _ (h.1 hc) hl hz0 hw0 H locs rl hW hS hL)
        · obtain ⟨off, ho, h1⟩ := h.2 hc
          have ha := Array.all_eq_true_iff_forall_mem.mp hjm1.2 off (Array.mem_of_getElem? ho)
          exact lv_tableIn hex hb hd (fun q => hc (Or.inl q)) (fun q => hc (Or.inr q)) ho (tg_ok (of_decide_eq_true ha)) (hK _ _ _ _ h1 hl hz0 hw0 H locs rl hW hS hL)
      · exact h.elim
    · -- ireturn
      rcases hck1 with hck1 | ⟨raw, n, hd, hr, hn⟩
      · cases hck1
      have hr : raw = _ := of_decide_eq_true hr
      subst hr
      rcases hn with ⟨_, _, _, _, hn⟩ | hn
      · cases hn
      subst hn
      split at h
      · exact hQ _ _ h.2 H locs rl pc hW hS (Or.inl ⟨_, _, rfl, rfl, hd, h.1⟩)
      · exact h.elim
    · rcases hck1 with hck1 | ⟨raw, n, hd, hr, hn⟩
      · cases hck1
      have hr : raw = _ := of_decide_eq_true hr
      subst hr
      rcases hn with ⟨_, _, _, _, hn⟩ | hn
      · cases hn
      subst hn
      split at h
      · exact hQ _ _ h H locs rl pc hW hS (Or.inr (Or.inl ⟨_, rfl, rfl, hd⟩))
      · exact h.elim
    · rcases hck1 with hck1 | ⟨raw, n, hd, hr, hn⟩
      · cases hck1
      have hr : raw = _ := of_decide_eq_true hr
      subst hr
      rcases hn with ⟨_, _, _, _, hn⟩ | hn
      · cases hn
      subst hn
      split at h
      · exact hQ _ _ h H locs rl pc hW hS (Or.inr (Or.inr ⟨rfl, rfl, hd⟩))
      · exact h.elim
    · -- invokestatic
      rename_i j
      rcases hck1 with hck1 | ⟨raw, n, hd, hr, hn⟩
      · cases hck1
      rcases hn with ⟨_, _, _, _, hn⟩ | hn
      · cases hn
      subst hn
      obtain ⟨x, rfl, hq⟩ : ∃ x, raw = .invokestatic x ∧ (if j = 900 ∨ j = 901 then ACs.contains (o, x) else MLs.contains (o, x, j) && (SOs.contains j || j == 291)) = true := by
        cases raw with
        | invokestatic x => exact ⟨x, rfl, hr⟩
        | _ => exact absurd (show false = true from hr) Bool.false_ne_true
      split at h
      · rw [if_pos (Or.inl rfl)] at hq
        split at h
        · rename_i n dp a sp a0 st
          obtain ⟨⟨g1, g2, g3, g4, g5, g6, g7, g8⟩, h⟩ := h
          obtain ⟨ha0, hc0⟩ := hW.ar g1 (by omega) (by omega)
          obtain ⟨ha, hc1⟩ := hW.ar g2 (by omega) (by omega)
          show W p l e R s m args below meth c H locs _ _ Qf (F0 m pc rl (.int n :: .int dp :: cv b xo (.ref a) :: .int sp :: cv b xo (.ref a0) :: st.map (cv b xo)))
          rw [cv_r ha, cv_r ha0]
          refine r_cpy (fun q => .int q) (ty := .int) hC hS hc0 hc1 ha (hC.2.2.2.2.2.1.2 1 _ rfl).1 rfl (fun _ => rfl) (fun _ _ _ => trivial) g3 g4 g5 g6 g7 (AC_in (by simpa using hq)) hrl (by omega) (by rw [cats_cv]; show _ + (7 + 11) ≤ _; omega) hd (fun H1 locs1 z1 oq e1 hs => ?_)
          exact ih _ _ _ _ hck2 hjm2 h hl hz0 hw0 H1 locs1 rl (rwI_ok hW g2 z1 oq e1) hs hL
        · exact h.elim
      · rw [if_pos (Or.inr rfl)] at hq
        split at h
        · rename_i n dp a sp a0 st
          obtain ⟨⟨g1, g2, g3, g4, g5, g6, g7, g8⟩, h⟩ := h
          obtain ⟨ha0, hc0⟩ := hW.ar g1 (by omega) (by omega)
          obtain ⟨ha, hc1⟩ := hW.ar g2 (by omega) (by omega)
          show W p l e R s m args below meth c H locs _ _ Qf (F0 m pc rl (.int n :: .int dp :: cv b xo (.ref a) :: .int sp :: cv b xo (.ref a0) :: st.map (cv b xo)))
          rw [cv_r ha, cv_r ha0]
          refine r_cpy (fun q => .long q) (ty := .long) hC hS hc0 hc1 ha (hC.2.2.2.2.2.1.2 2 _ rfl).1 rfl (fun _ => rfl) (fun _ _ _ => trivial) g3 g4 g5 g6 g7 (AC_in (by simpa using hq)) hrl (by omega) (by rw [cats_cv]; show _ + (7 + 11) ≤ _; omega) hd (fun H1 locs1 z1 oq e1 hs => ?_)
          exact ih _ _ _ _ hck2 hjm2 h hl hz0 hw0 H1 locs1 rl (rwJ_ok hW g2 z1 oq e1) hs hL
        · exact h.elim
      · rename_i hj1 hj2
        rw [if_neg (by rintro (q | q); exact hj1 q; exact hj2 q)] at hq
        simp only [Bool.and_eq_true, Bool.or_eq_true, List.contains_iff_mem, beq_iff_eq] at hq
        obtain ⟨⟨g1, g2⟩, r, M1, hE1, h⟩ := h
        have hz1 := hEz _ _ _ _ _ hE1
        have hsz1 := bl_size (z := z) (w := w) hEz hKz hQz _ _ _ _ _ h
        have kk : ∀ (H1 : Heap) (locs1 : List Loc), WR D cy b M1 H1 → va_S (AA b) s.heap H1 locs1 → W p l e R s m args below meth c H1 locs1 (mS M - z0 + (mS M1 - mS M)) (mW M - w0 + (mW M1 - mW M)) Qf (F0 m (pc + 3) rl ((r.toList ++ st.drop (ac j)).map (cv b xo))) := fun H1 locs1 hw hs => Wc (ih _ _ _ _ hck2 hjm2 h hl (by omega) (by omega) H1 locs1 rl hw hs hL) (hcat _ _ _ hz0 hz1.1).symm (hcat _ _ _ hw0 hz1.2).symm
        have e1 : st = (st.take (ac j)).reverse.reverse ++ st.drop (ac j) := tk_dr.symm
        rw [e1]
        by_cases hj : j = 291
        · subst hj
          exact hLR x pc _ _ M r M1 H locs rl _ _ hq.1 hE1 hW hS hrl g2 (by rw [hcat _ _ _ hz0 hz1.1]; omega) (by rw [hcat _ _ _ hw0 hz1.2]; omega) hd kk
        · refine r_callS hC hW hS (hE _ _ _ _ _ hj hE1) (hq.2.resolve_right hj) hj hq.1 ?_ hrl g2 hR1 hR2 (by rw [hcat _ _ _ hz0 hz1.1]; omega) (by rw [hcat _ _ _ hw0 hz1.2]; omega) hd kk
          rw [List.length_reverse, List.length_take]
          omega
    · -- invokespecial
      rename_i j
      rcases hck1 with hck1 | ⟨raw, n, hd, hr, hn⟩
      · cases hck1
      rcases hn with ⟨_, _, _, _, hn⟩ | hn
      · cases hn
      subst hn
      obtain ⟨x, rfl, hq⟩ : ∃ x, raw = .invokespecial x ∧ (if j = 900 then OBs.contains (o, x) else (MLs.contains (o, x, j) || MLNs.contains (o, x, j)) && NOs.contains j && decide ((yy j).name = "<init>")) = true := by
        cases raw with
        | invokespecial x => exact ⟨x, rfl, hr⟩
        | _ => exact absurd (show false = true from hr) Bool.false_ne_true
      split at h
      · rw [if_pos rfl] at hq
        split at h
        · rename_i a st
          obtain ⟨⟨g1, g2⟩, h⟩ := h
          show W p l e R s m args below meth c H locs _ _ Qf (F0 m pc rl (cv b xo (.ref a) :: st.map (cv b xo)))
          rw [cv_r g1]
          refine W.objInit hex hb hown (hts _ (OB_in (by simpa using hq))) (hts _ (AN_ok _ (List.mem_of_getElem? (i := 3) rfl))) (hts _ obj_code) rfl (by rw [hC.2.2.1]; exact hrl) rfl hd (by omega) (by show 2 * 0 + _ + 12 ≤ _; rw [cats_cv]; omega) ?_
          exact ih _ _ _ _ hck2 hjm2 h hl hz0 hw0 H locs rl hW hS hL
        · exact h.elim
      · rename_i hj1
        rw [if_neg hj1] at hq
        simp only [Bool.and_eq_true, Bool.or_eq_true, List.contains_iff_mem, decide_eq_true_eq] at hq
        obtain ⟨g0, ⟨g1, g2⟩, r, M1, hE1, h⟩ := h
        have hz1 := hEz _ _ _ _ _ hE1
        have hsz1 := bl_size (z := z) (w := w) hEz hKz hQz _ _ _ _ _ h
        have hj : j ≠ 291 := by rintro rfl; exact absurd hq.1.2 (by decide +kernel)
        split at g0
        · rename_i ra tl hdr
          obtain ⟨f1, f2, f3, f4⟩ := dr_head (par_in j hq.1.2).2 hdr
          have kk : ∀ (H1 : Heap) (locs1 : List Loc), WR D cy b M1 H1 → va_S (AA b) s.heap H1 locs1 → W p l e R s m args below meth c H1 locs1 (mS M - z0 + (mS M1 - mS M)) (mW M - w0 + (mW M1 - mW M)) Qf (F0 m (pc + 3) rl ((r.toList ++ tl).map (cv b xo))) := fun H1 locs1 hw hs => Wc (by rw [← f2]; exact ih _ _ _ _ hck2 hjm2 h hl (by omega) (by omega) H1 locs1 rl hw hs hL) (hcat _ _ _ hz0 hz1.1).symm (hcat _ _ _ hw0 hz1.2).symm
          rw [f3]
          refine r_callI hC hW hS (by rw [← f1]; exact hE _ _ _ _ _ hj hE1) g0 hq.1.2 hq.2 hq.1.1 f4 hrl (by rw [← f2]; exact g2) hR1 hR2 (by rw [hcat _ _ _ hz0 hz1.1]; omega) (by rw [hcat _ _ _ hw0 hz1.2]; omega) hd kk
        · exact g0.elim
    · -- invokevirtual
      rename_i j
      rcases hck1 with hck1 | ⟨raw, n, hd, hr, hn⟩
      · cases hck1
      rcases hn with ⟨_, _, _, _, hn⟩ | hn
      · cases hn
      subst hn
      obtain ⟨x, rfl, hq⟩ : ∃ x, raw = .invokevirtual x ∧ (MLs.contains (o, x, j) && NOs.contains j && EOs.contains j) = true := by
        cases raw with
        | invokevirtual x => exact ⟨x, rfl, hr⟩
        | _ => exact absurd (show false = true from hr) Bool.false_ne_true
      simp only [Bool.and_eq_true, List.contains_iff_mem] at hq
      obtain ⟨g0, ⟨g1, g2⟩, r, M1, hE1, h⟩ := h
      have hz1 := hEz _ _ _ _ _ hE1
      have hsz1 := bl_size (z := z) (w := w) hEz hKz hQz _ _ _ _ _ h
      have hj : j ≠ 291 := by rintro rfl; exact absurd hq.1.2 (by decide +kernel)
      split at g0
      · rename_i ra tl hdr
        obtain ⟨f1, f2, f3, f4⟩ := dr_head (par_in j hq.1.2).2 hdr
        have kk : ∀ (H1 : Heap) (locs1 : List Loc), WR D cy b M1 H1 → va_S (AA b) s.heap H1 locs1 → W p l e R s m args below meth c H1 locs1 (mS M - z0 + (mS M1 - mS M)) (mW M - w0 + (mW M1 - mW M)) Qf (F0 m (pc + 3) rl ((r.toList ++ tl).map (cv b xo))) := fun H1 locs1 hw hs => Wc (by rw [← f2]; exact ih _ _ _ _ hck2 hjm2 h hl (by omega) (by omega) H1 locs1 rl hw hs hL) (hcat _ _ _ hz0 hz1.1).symm (hcat _ _ _ hw0 hz1.2).symm
        rw [f3]
        refine r_callV hC hW hS (by rw [← f1]; exact hE _ _ _ _ _ hj hE1) g0.1 g0.2 hq.1.2 hq.2 hq.1.1 f4 hrl (by rw [← f2]; exact g2) hR1 hR2 (by rw [hcat _ _ _ hz0 hz1.1]; omega) (by rw [hcat _ _ _ hw0 hz1.2]; omega) hd kk
      · rename_i xi tl hdr
        obtain ⟨f1, f2, f3, f4⟩ := dr_head (par_in j hq.1.2).2 hdr
        have kk : ∀ (H1 : Heap) (locs1 : List Loc), WR D cy b M1 H1 → va_S (AA b) s.heap H1 locs1 → W p l e R s m args below meth c H1 locs1 (mS M - z0 + (mS M1 - mS M)) (mW M - w0 + (mW M1 - mW M)) Qf (F0 m (pc + 3) rl ((r.toList ++ tl).map (cv b xo))) := fun H1 locs1 hw hs => Wc (by rw [← f2]; exact ih _ _ _ _ hck2 hjm2 h hl (by omega) (by omega) H1 locs1 rl hw hs hL) (hcat _ _ _ hz0 hz1.1).symm (hcat _ _ _ hw0 hz1.2).symm
        rw [f3]
        refine r_callX hC hW hS (by rw [← f1]; exact hE _ _ _ _ _ hj hE1) g0.1 g0.2 hq.1.2 hq.2 hq.1.1 f4 hrl (by rw [← f2]; exact g2) hR1 hR2 (by rw [hcat _ _ _ hz0 hz1.1]; omega) (by rw [hcat _ _ _ hw0 hz1.2]; omega) hd kk
      · exact g0.elim
    · -- the others
      rcases hck1 with hck1 | ⟨raw, n, hd, hr, hn⟩
      · subst hck1
        exact False.elim h
      have hn : n = ln i := by
        rcases hn with ⟨q1, q2, q3, q4, hn⟩ | hn
        · subst hn
          exact False.elim h
        · exact hn
      subst hn
      split at h
      · rename_i ls' st' hsx
        obtain ⟨hr1, hr2⟩ := sx_raw hsx hr
        subst hr1
        rw [hr2] at hd hck2 hjm2
        refine sx_W hex hb hsx hd hL (fun rl' hL' => ?_)
        exact ih _ _ _ _ hck2 hjm2 h ((sx_len hsx).trans hl) hz0 hw0 H locs rl' hW hS hL'
      · split at h
        · rename_i g st' M' hhx
          have hr2 := hx_ln hhx
          rw [hr2] at hd hck2 hjm2
          have hz1 := hx_size hhx
          have hsz1 := bl_size (z := z) (w := w) hEz hKz hQz _ _ _ _ _ h.2
          refine hx_W hC hW hS hhx h.1 hr hini hd (by rw [hcat _ _ _ hz0 hz1.1]; omega) (by rw [hcat _ _ _ hw0 hz1.2]; omega) (fun H1 locs1 hw hs => ?_)
          exact Wc (ih _ _ _ _ hck2 hjm2 h.2 hl (by omega) (by omega) H1 locs1 rl hw hs hL) (hcat _ _ _ hz0 hz1.1).symm (hcat _ _ _ hw0 hz1.2).symm
        · exact h.elim
end
end
section
theorem lookup_mem {α : Type} {bs : List (Nat × α)} {k : Nat} {v : α} (h : bs.lookup k = some v) : (k, v) ∈ bs := by
  induction bs with
  | nil => cases h
  | cons q t ih =>
    obtain ⟨a, c⟩ := q
    rw [List.lookup_cons] at h
    split at h
    · rename_i hk
      have hk : k = a := by simpa using hk
      subst hk
      cases h
      exact List.mem_cons_self
    · exact List.mem_cons_of_mem _ (ih h)
theorem lay_len (b : Nat) (xo : Nat → Option Nat) (a : List Value) : (lay a).length = (lg_sl (a.map (cv b xo))).length := by
  induction a with
  | nil => rfl
  | cons v t ih =>
    have e1 : lg_sl ((v :: t).map (cv b xo)) = (if (cv b xo v).category = 2 then [Slot.val (cv b xo v), Slot.second] else [Slot.val (cv b xo v)]) ++ lg_sl (t.map (cv b xo)) := by
      unfold lg_sl
      rw [List.map_cons, List.flatMap_cons]
    rw [e1, List.length_append, ← ih, cv_cat]
    cases v <;> simp [lay, Value.category] <;> omega
theorem lay_args (b : Nat) (xo : Nat → Option Nat) : ∀ (a : List Value) (k i : Nat) (v : Value), (lay a)[i]? = some v → v ≠ jk → (k + i, cv b xo v) ∈ lv_args k (a.map (cv b xo)) := by
  intro a
  induction a with
  | nil => intro k i v h; simp [lay] at h
  | cons u t ih =>
    intro k i v h hv
    rw [List.map_cons, lv_args, cv_cat]
    have two : ∀ (w : Value), (w :: jk :: lay t)[i]? = some v → (k + i, cv b xo v) ∈ (k, cv b xo w) :: lv_args (k + 2) (t.map (cv b xo)) := by
      intro w h
      match i, h with
      | 0, h => cases h; exact List.mem_cons_self
      | 1, h => exact absurd (Option.some.inj h).symm hv
      | n + 2, h =>
        have h1 := ih (k + 2) n v h hv
        rw [show k + (n + 2) = k + 2 + n by omega]
        exact List.mem_cons_of_mem _ h1
    have one : ∀ (w : Value), (w :: lay t)[i]? = some v → (k + i, cv b xo v) ∈ (k, cv b xo w) :: lv_args (k + 1) (t.map (cv b xo)) := by
      intro w h
      match i, h with
      | 0, h => cases h; exact List.mem_cons_self
      | n + 1, h =>
        have h1 := ih (k + 1) n v h hv
        rw [show k + (n + 1) = k + 1 + n by omega]
        exact List.mem_cons_of_mem _ h1
    cases u <;> first | (exact one _ h) | (exact two _ h)
theorem lay_has {b : Nat} {xo : Nat → Option Nat} {a : List Value} {n : Nat} (hn : (lay a).length ≤ n) : lv_has ((lg_sl (a.map (cv b xo)) ++ List.replicate (n - (lg_sl (a.map (cv b xo))).length) Slot.unset).toArray) (lay0 a n).length (pl b xo (lay0 a n)) := by
  have h := lv_entry (a.map (cv b xo)) (n := n) (by rw [← lay_len]; exact hn)
  have hl : (lay0 a n).length = n := by unfold lay0; rw [List.length_append, List.length_replicate]; omega
  refine ⟨by rw [hl]; exact h.1, h.2.1, fun q hq => ?_⟩
  obtain ⟨i, w⟩ := q
  obtain ⟨v, hv, hj, rfl⟩ := pl_mem.mp hq
  apply h.2.2
  unfold lay0 at hv
  rcases Nat.lt_or_ge i (lay a).length with hlt | hge
  · rw [List.getElem?_append_left hlt] at hv
    have := lay_args b xo a 0 i v hv hj
    rwa [Nat.zero_add] at this
  · rw [List.getElem?_append_right hge] at hv
    have := List.mem_of_getElem? hv
    rw [List.mem_replicate] at this
    exact absurd this.2 hj
theorem Met_ofWF {l : Launch} {y : MethodName} {ws ws' : List Cond} {rm : Room} {Pc : Array Value → State → Prop} {Qc : Array Value → State → Outcome → State → Prop} {mc ms : Nat} {free : Addr → Prop} {cc : ByteArray} {maxL : Nat} {ret : Option FieldType}
    (hy : plainFor y = true) (hw : ws = Cond.code y cc maxL ret :: ws')
    (body : ∀ p e s m args below meth c s₁, BodyLoose p l y (headSpec ws rm) cc maxL ret e s m args below meth c s₁ → c.maxLocals = maxL → Pc args s →
      W p l e (headSpec ws rm).room s m args below meth c s.heap [] 0 0 (MQ below Qc args s mc ms free) (entryFrame m args maxL)) : Met l y ws rm Pc Qc mc ms free := by
  refine MetFree.of_bodySF (code := cc) (maxLocals := maxL) (ret := ret) hy ?_ ?_
  · intro args s m h hn
    obtain ⟨meth, c, h1, h2, h3, h4, h5, h6, -, -⟩ := Cond.code_spec hn (atoms_spec (ws := ws) h _ (by rw [hw]; exact List.mem_cons_self))
    exact ⟨meth, c, h1, h2, h3, h4, h5, h6⟩
  · intro p e s m args below meth c s₁ B hml hP _
    have hh0 : s₁.heap = s.heap := by rw [B.state]; rfl
    obtain ⟨t, a1, o, b1, b2, b3⟩ := body p e s m args below meth c s₁ B hml hP s₁ hh0 (Stand.of_body B)
    exact ⟨t, o, a1, b1, b2, ⟨b3.1, b3.2⟩⟩
section
variable {p : Program} {l : Launch} {e : Env} {R : Room} {s : State} {m : MethodId} {args : Array Value} {below : List Frame} {meth : Method} {c : Code} {Qf : State → Prop} {cc : ByteArray} {o nL : Nat} {D : va_G} {cy : Nat → ClassId} {b : Nat} {xo : Nat → Option Nat} {L : Nat} {xs : Nat → Int32}
theorem XN_W {E : Nat → List Value → mm_M → Option Value → mm_M → Prop} {bs : List (Nat × List Instr)} {Q : Option Value → mm_M → Prop} {rt : Option FieldType} {z w z0 w0 d : Nat} {ini : Bool}
    (hC : CX p s m args c cc o nL D cy b xo L xs) (hini : ini = true → meth.name = "<init>") (hR1 : d + 1 ≤ R.frames) (hR2 : 60 * (d + 1) ≤ R.locals) (hR3 : z - z0 ≤ R.cells) (hR4 : w - w0 ≤ R.slots)
    (hE : ∀ j a M r M1, j ≠ 291 → E j a M r M1 → MC l D cy b xo L xs d j a M r M1) (hEz : ∀ j a M r M1, E j a M r M1 → mS M ≤ mS M1 ∧ mW M ≤ mW M1) (hLR : LRr p l e R s m args below meth c Qf cc o nL D cy b xo E)
    (hbs : ∀ q ∈ bs, ckB o ini cc q.2 q.1 = true ∧ jmpB q.2 q.1 = true) (hQz : ∀ v M, Q v M → mS M ≤ z ∧ mW M ≤ w)
    (hQ : ∀ v M1, Q v M1 → ∀ (H1 : Heap) (locs1 : List Loc) (rl1 : Array Slot) (pc1 : Nat), WR D cy b M1 H1 → va_S (AA b) s.heap H1 locs1 → RQ cc rt v pc1 → W p l e R s m args below meth c H1 locs1 (mS M1 - z0) (mW M1 - w0) Qf (F0 m pc1 rl1 (v.toList.map (cv b xo)))) :
    ∀ (n pc : Nat) (ls st : List Value) (M : mm_M), XN L xs ac kd E rt bs Q n pc ls st M → ls.length = nL → z0 ≤ mS M → w0 ≤ mW M → WS p l e R s m args below meth c Qf D cy b xo z0 w0 M pc ls st := by
  intro n
  induction n with
  | zero => intro pc ls st M h; exact h.elim
  | succ n ih =>
    intro pc ls st M h hl h1 h2
    unfold XN at h
    split at h
    · rename_i bk hbk
      have hm := hbs _ (lookup_mem hbk)
      exact bl_W hC hini hR1 hR2 hR3 hR4 hE hEz hLR ih (fun a b c M q => XN_size hEz hQz n a b c M q) hQz hQ bk pc ls st M hm.1 hm.2 h hl h1 h2
    · exact h.elim
end
end
section
def PLs : List (List (Nat × List Instr)) := [P0, P1, P2, P3, P4, P5, P6, P7, P8, P9, P10, P11, P12, P13, P14, P15, P16, P17, P18, P19, P20, P21, P22, P23, P24, P25, P26, P27, P28, P29, P30, P31, P32, P33, P34, P35, P36, P37, P38, P39, P40, P41, P42, P43, P44, P45, P46, P47, P48, P49, P50, P51, P52, P53, P54, P55, P56, P57, P58, P59, P60, P61, P62, P63, P64, P65, P66, P67, P68, P69, P70, P71, P72, P73, P74, P75, P76, P77, P78, P79, P80, P81, P82, P83, P84, P85, P86, P87, P88, P89, P90, P91, P92, P93, P94, P95, P96, P97, P98, P99, P100, P101, P102, P103, P104, P105, P106, P107, P108, P109, P110, P111, P112, P113, P114, P115, P116, P117, P118, P119, P120, P121, P122, P123, P124, P125, P126, P127, P128, P129, P130, P131, P132, P133, P134, P135, P136, P137, P138, P139, P140, P141, P142, P143, P144, P145, P146, P147, P148, P149, P150, P151, P152, P153, P154, P155, P156, P157, P158, P159, P160, P161, P162, P163, P164, P165, P166, P167, P168, P169, P170, P171, P172, P173, P174, P175, P176, P177, P178, P179, P180, P181, P182, P183, P184, P185, P186, P187, P188, P189, P190, P191, P192, P193, P194, P195, P196, P197, P198, P199, P200, P201, P202, P203, P204, P205, P206, P207, P208, P209, P210, P211, P212, P213, P214, P215, P216, P217, P218, P219, P220, P221, P222, P223, P224, P225, P226, P227, P228, P229, P230, P231, P232, P233, P234, P235, P236, P237, P238, P239, P240, P241, P242, P243, P244, P245, P246, P247, P248, P249, P250, P251, P252, P253, P254, P255, P256, P257, P258, P259, P260, P261, P262, P263, P264, P265, P266, P267, P268, P269, P270, P271, P272, P273, P274, P275, P276, P277, P278, P279, P280, P281, P282, P283, P284, P285, P286, P287, P288, P289, P290]
def PL (j : Nat) : List (Nat × List Instr) := PLs.getD j []
def inL : List Bool := [true, false, false, false, false, true, false, false, false, false, false, false, true, false, false, false, false, true, false, false, false, false, false, true, false, false, false, true, false, false, false, false, false, false, false, false, false, false, false, false, false, false, true, false, false, false, false, false, false, true, false, false, false, false, false, false, false, false, false, false, false, true, false, false, false, false, false, true, false, false, false, false, false, false, false, false, false, false, false, false, false, false, false, false, false, false, false, true, false, false, false, false, false, false, false, false, false, false, false, false, false, false, false, false, false, false, false, true, false, false, false, false, false, false, false, false, false, false, false, false, false, false, false, false, false, false, false, false, false, false, false, false, false, false, false, false, false, false, false, false, false, false, false, false, false, false, false, false, false, false, false, false, false, false, false, false, false, false, false, false, false, false, true, false, false, false, false, false, false, false, false, false, false, false, false, false, false, false, false, false, false, false, false, false, false, false, false, false, false, false, false, false, false, false, false, false, false, false, false, false, false, false, false, false, false, false, false, false, false, false, false, false, false, false, false, false, false, false, false, false, false, false, false, false, false, false, false, false, false, false, false, false, false, false, false, false, false, false, false, false, false, false, false, false, false, false, false, false, false, false, false, false, false, false, false, false, false, false, false, false, false, false, false, false, false, false, false, false, false, false, false, false, false, false, false, false, false, false, false, false, false, false, false, false, false, false, false, false, false, false, false, false]
def inj (j : Nat) : Bool := inL.getD j false
theorem inj_ok : ∀ j, j < 292 → inj j = true → (yy j).name = "<init>" := by decide +kernel
def ckQ (j : Nat) : Bool := ckP (ow j) (inj j) (bb j) (PL j)
theorem kq_0 : ckQ 0 = true := K0
theorem kq_1 : ckQ 1 = true := K1
theorem kq_2 : ckQ 2 = true := K2
theorem kq_3 : ckQ 3 = true := K3
theorem kq_4 : ckQ 4 = true := K4
theorem kq_5 : ckQ 5 = true := K5
theorem kq_6 : ckQ 6 = true := K6
theorem kq_7 : ckQ 7 = true := K7
theorem kq_8 : ckQ 8 = true := K8
theorem kq_9 : ckQ 9 = true := K9
theorem kq_10 : ckQ 10 = true := K10
theorem kq_11 : ckQ 11 = true := K11
theorem kq_12 : ckQ 12 = true := K12
theorem kq_13 : ckQ 13 = true := K13
theorem kq_14 : ckQ 14 = true := K14
theorem kq_15 : ckQ 15 = true := K15
theorem kq_16 : ckQ 16 = true := K16
theorem kq_17 : ckQ 17 = true := K17
theorem kq_18 : ckQ 18 = true := K18
theorem kq_19 : ckQ 19 = true := K19
theorem kq_20 : ckQ 20 = true := K20
theorem kq_21 : ckQ 21 = true := K21
theorem kq_22 : ckQ 22 = true := K22
theorem kq_23 : ckQ 23 = true := K23
theorem kq_24 : ckQ 24 = true := K24
theorem kq_25 : ckQ 25 = true := K25
theorem kq_26 : ckQ 26 = true := K26
theorem kq_27 : ckQ 27 = true := K27
theorem kq_28 : ckQ 28 = true := K28
theorem kq_29 : ckQ 29 = true := K29
theorem kq_30 : ckQ 30 = true := K30
theorem kq_31 : ckQ 31 = true := K31
theorem kq_32 : ckQ 32 = true := K32
theorem kq_33 : ckQ 33 = true := K33
theorem kq_34 : ckQ 34 = true := K34
theorem kq_35 : ckQ 35 = true := K35
theorem kq_36 : ckQ 36 = true := K36
theorem kq_37 : ckQ 37 = true := K37
theorem kq_38 : ckQ 38 = true := K38
theorem kq_39 : ckQ 39 = true := K39
theorem kq_40 : ckQ 40 = true := K40
theorem kq_41 : ckQ 41 = true := K41
theorem kq_42 : ckQ 42 = true := K42
theorem kq_43 : ckQ 43 = true := K43
theorem kq_44 : ckQ 44 = true := K44
theorem kq_45 : ckQ 45 = true := K45
theorem kq_46 : ckQ 46 = true := K46
theorem kq_47 : ckQ 47 = true := K47
theorem kq_48 : ckQ 48 = true := K48
theorem kq_49 : ckQ 49 = true := K49
theorem kq_50 : ckQ 50 = true := K50
theorem kq_51 : ckQ 51 = true := K51
theorem kq_52 : ckQ 52 = true := K52
theorem kq_53 : ckQ 53 = true := K53
theorem kq_54 : ckQ 54 = true := K54
theorem kq_55 : ckQ 55 = true := K55
theorem kq_56 : ckQ 56 = true := K56
theorem kq_57 : ckQ 57 = true := K57
theorem kq_58 : ckQ 58 = true := K58
theorem kq_59 : ckQ 59 = true := K59
theorem kq_60 : ckQ 60 = true := K60
theorem kq_61 : ckQ 61 = true := K61
theorem kq_62 : ckQ 62 = true := K62
theorem kq_63 : ckQ 63 = true := K63
theorem kq_64 : ckQ 64 = true := K64
theorem kq_65 : ckQ 65 = true := K65
theorem kq_66 : ckQ 66 = true := K66
theorem kq_67 : ckQ 67 = true := K67
theorem kq_68 : ckQ 68 = true := K68
theorem kq_69 : ckQ 69 = true := K69
theorem kq_70 : ckQ 70 = true := K70
theorem kq_71 : ckQ 71 = true := K71
theorem kq_72 : ckQ 72 = true := K72
theorem kq_73 : ckQ 73 = true := K73
theorem kq_74 : ckQ 74 = true := K74
theorem kq_75 : ckQ 75 = true := K75
theorem kq_76 : ckQ 76 = true := K76
theorem kq_77 : ckQ 77 = true := K77
theorem kq_78 : ckQ 78 = true := K78
theorem kq_79 : ckQ 79 = true := K79
theorem kq_80 : ckQ 80 = true := K80
theorem kq_81 : ckQ 81 = true := K81
theorem kq_82 : ckQ 82 = true := K82
theorem kq_83 : ckQ 83 = true := K83
theorem kq_84 : ckQ 84 = true := K84
theorem kq_85 : ckQ 85 = true := K85
theorem kq_86 : ckQ 86 = true := K86
theorem kq_87 : ckQ 87 = true := K87
theorem kq_88 : ckQ 88 = true := K88
theorem kq_89 : ckQ 89 = true := K89
theorem kq_90 : ckQ 90 = true := K90
theorem kq_91 : ckQ 91 = true := K91
theorem kq_92 : ckQ 92 = true := K92
theorem kq_93 : ckQ 93 = true := K93
theorem kq_94 : ckQ 94 = true := K94
theorem kq_95 : ckQ 95 = true := K95
theorem kq_96 : ckQ 96 = true := K96
theorem kq_97 : ckQ 97 = true := K97
theorem kq_98 : ckQ 98 = true := K98
theorem kq_99 : ckQ 99 = true := K99
theorem kq_100 : ckQ 100 = true := K100
theorem kq_101 : ckQ 101 = true := K101
theorem kq_102 : ckQ 102 = true := K102
theorem kq_103 : ckQ 103 = true := K103
theorem kq_104 : ckQ 104 = true := K104
theorem kq_105 : ckQ 105 = true := K105
theorem kq_106 : ckQ 106 = true := K106
theorem kq_107 : ckQ 107 = true := K107
theorem kq_108 : ckQ 108 = true := K108
theorem kq_109 : ckQ 109 = true := K109
theorem kq_110 : ckQ 110 = true := K110
theorem kq_111 : ckQ 111 = true := K111
theorem kq_112 : ckQ 112 = true := K112
theorem kq_113 : ckQ 113 = true := K113
theorem kq_114 : ckQ 114 = true := K114
theorem kq_115 : ckQ 115 = true := K115
theorem kq_116 : ckQ 116 = true := K116
theorem kq_117 : ckQ 117 = true := K117
theorem kq_118 : ckQ 118 = true := K118
theorem kq_119 : ckQ 119 = true := K119
theorem kq_120 : ckQ 120 = true := K120
theorem kq_121 : ckQ 121 = true := K121
theorem kq_122 : ckQ 122 = true := K122
theorem kq_123 : ckQ 123 = true := K123
theorem kq_124 : ckQ 124 = true := K124
theorem kq_125 : ckQ 125 = true := K125
theorem kq_126 : ckQ 126 = true := K126
theorem kq_127 : ckQ 127 = true := K127
theorem kq_128 : ckQ 128 = true := K128
theorem kq_129 : ckQ 129 = true := K129
theorem kq_130 : ckQ 130 = true := K130
theorem kq_131 : ckQ 131 = true := K131
theorem kq_132 : ckQ 132 = true := K132
theorem kq_133 : ckQ 133 = true := K133
theorem kq_134 : ckQ 134 = true := K134
theorem kq_135 : ckQ 135 = true := K135
theorem kq_136 : ckQ 136 = true := K136
theorem kq_137 : ckQ 137 = true := K137
theorem kq_138 : ckQ 138 = true := K138
theorem kq_139 : ckQ 139 = true := K139
theorem kq_140 : ckQ 140 = true := K140
theorem kq_141 : ckQ 141 = true := K141
theorem kq_142 : ckQ 142 = true := K142
theorem kq_143 : ckQ 143 = true := K143
theorem kq_144 : ckQ 144 = true := K144
theorem kq_145 : ckQ 145 = true := K145
theorem kq_146 : ckQ 146 = true := K146
theorem kq_147 : ckQ 147 = true := K147
theorem kq_148 : ckQ 148 = true := K148
theorem kq_149 : ckQ 149 = true := K149
theorem kq_150 : ckQ 150 = true := K150
theorem kq_151 : ckQ 151 = true := K151
theorem kq_152 : ckQ 152 = true := K152
theorem kq_153 : ckQ 153 = true := K153
theorem kq_154 : ckQ 154 = true := K154
theorem kq_155 : ckQ 155 = true := K155
theorem kq_156 : ckQ 156 = true := K156
theorem kq_157 : ckQ 157 = true := K157
theorem kq_158 : ckQ 158 = true := K158
theorem kq_159 : ckQ 159 = true := K159
theorem kq_160 : ckQ 160 = true := K160
theorem kq_161 : ckQ 161 = true := K161
theorem kq_162 : ckQ 162 = true := K162
theorem kq_163 : ckQ 163 = true := K163
theorem kq_164 : ckQ 164 = true := K164
theorem kq_165 : ckQ 165 = true := K165
theorem kq_166 : ckQ 166 = true := K166
theorem kq_167 : ckQ 167 = true := K167
theorem kq_168 : ckQ 168 = true := K168
theorem kq_169 : ckQ 169 = true := K169
theorem kq_170 : ckQ 170 = true := K170
theorem kq_171 : ckQ 171 = true := K171
theorem kq_172 : ckQ 172 = true := K172
theorem kq_173 : ckQ 173 = true := K173
theorem kq_174 : ckQ 174 = true := K174
theorem kq_175 : ckQ 175 = true := K175
theorem kq_176 : ckQ 176 = true := K176
theorem kq_177 : ckQ 177 = true := K177
theorem kq_178 : ckQ 178 = true := K178
theorem kq_179 : ckQ 179 = true := K179
theorem kq_180 : ckQ 180 = true := K180
theorem kq_181 : ckQ 181 = true := K181
theorem kq_182 : ckQ 182 = true := K182
theorem kq_183 : ckQ 183 = true := K183
theorem kq_184 : ckQ 184 = true := K184
theorem kq_185 : ckQ 185 = true := K185
theorem kq_186 : ckQ 186 = true := K186
theorem kq_187 : ckQ 187 = true := K187
theorem kq_188 : ckQ 188 = true := K188
theorem kq_189 : ckQ 189 = true := K189
theorem kq_190 : ckQ 190 = true := K190
theorem kq_191 : ckQ 191 = true := K191
theorem kq_192 : ckQ 192 = true := K192
theorem kq_193 : ckQ 193 = true := K193
theorem kq_194 : ckQ 194 = true := K194
theorem kq_195 : ckQ 195 = true := K195
theorem kq_196 : ckQ 196 = true := K196
theorem kq_197 : ckQ 197 = true := K197
theorem kq_198 : ckQ 198 = true := K198
theorem kq_199 : ckQ 199 = true := K199
theorem kq_200 : ckQ 200 = true := K200
theorem kq_201 : ckQ 201 = true := K201
theorem kq_202 : ckQ 202 = true := K202
theorem kq_203 : ckQ 203 = true := K203
theorem kq_204 : ckQ 204 = true := K204
theorem kq_205 : ckQ 205 = true := K205
theorem kq_206 : ckQ 206 = true := K206
theorem kq_207 : ckQ 207 = true := K207
theorem kq_208 : ckQ 208 = true := K208
theorem kq_209 : ckQ 209 = true := K209
theorem kq_210 : ckQ 210 = true := K210
theorem kq_211 : ckQ 211 = true := K211
theorem kq_212 : ckQ 212 = true := K212
theorem kq_213 : ckQ 213 = true := K213
theorem kq_214 : ckQ 214 = true := K214
theorem kq_215 : ckQ 215 = true := K215
theorem kq_216 : ckQ 216 = true := K216
theorem kq_217 : ckQ 217 = true := K217
theorem kq_218 : ckQ 218 = true := K218
theorem kq_219 : ckQ 219 = true := K219
theorem kq_220 : ckQ 220 = true := K220
theorem kq_221 : ckQ 221 = true := K221
theorem kq_222 : ckQ 222 = true := K222
theorem kq_223 : ckQ 223 = true := K223
theorem kq_224 : ckQ 224 = true := K224
theorem kq_225 : ckQ 225 = true := K225
theorem kq_226 : ckQ 226 = true := K226
theorem kq_227 : ckQ 227 = true := K227
theorem kq_228 : ckQ 228 = true := K228
theorem kq_229 : ckQ 229 = true := K229
theorem kq_230 : ckQ 230 = true := K230
theorem kq_231 : ckQ 231 = true := K231
theorem kq_232 : ckQ 232 = true := K232
theorem kq_233 : ckQ 233 = true := K233
theorem kq_234 : ckQ 234 = true := K234
theorem kq_235 : ckQ 235 = true := K235
theorem kq_236 : ckQ 236 = true := K236
theorem kq_237 : ckQ 237 = true := K237
theorem kq_238 : ckQ 238 = true := K238
theorem kq_239 : ckQ 239 = true := K239
theorem kq_240 : ckQ 240 = true := K240
theorem kq_241 : ckQ 241 = true := K241
theorem kq_242 : ckQ 242 = true := K242
theorem kq_243 : ckQ 243 = true := K243
theorem kq_244 : ckQ 244 = true := K244
theorem kq_245 : ckQ 245 = true := K245
theorem kq_246 : ckQ 246 = true := K246
theorem kq_247 : ckQ 247 = true := K247
theorem kq_248 : ckQ 248 = true := K248
theorem kq_249 : ckQ 249 = true := K249
theorem kq_250 : ckQ 250 = true := K250
theorem kq_251 : ckQ 251 = true := K251
theorem kq_252 : ckQ 252 = true := K252
theorem kq_253 : ckQ 253 = true := K253
theorem kq_254 : ckQ 254 = true := K254
theorem kq_255 : ckQ 255 = true := K255
theorem kq_256 : ckQ 256 = true := K256
theorem kq_257 : ckQ 257 = true := K257
theorem kq_258 : ckQ 258 = true := K258
theorem kq_259 : ckQ 259 = true := K259
theorem kq_260 : ckQ 260 = true := K260
theorem kq_261 : ckQ 261 = true := K261
theorem kq_262 : ckQ 262 = true := K262
theorem kq_263 : ckQ 263 = true := K263
theorem kq_264 : ckQ 264 = true := K264
theorem kq_265 : ckQ 265 = true := K265
theorem kq_266 : ckQ 266 = true := K266
theorem kq_267 : ckQ 267 = true := K267
theorem kq_268 : ckQ 268 = true := K268
theorem kq_269 : ckQ 269 = true := K269
theorem kq_270 : ckQ 270 = true := K270
theorem kq_271 : ckQ 271 = true := K271
theorem kq_272 : ckQ 272 = true := K272
theorem kq_273 : ckQ 273 = true := K273
theorem kq_274 : ckQ 274 = true := K274
theorem kq_275 : ckQ 275 = true := K275
theorem kq_276 : ckQ 276 = true := K276
theorem kq_277 : ckQ 277 = true := K277
theorem kq_278 : ckQ 278 = true := K278
theorem kq_279 : ckQ 279 = true := K279
theorem kq_280 : ckQ 280 = true := K280
theorem kq_281 : ckQ 281 = true := K281
theorem kq_282 : ckQ 282 = true := K282
theorem kq_283 : ckQ 283 = true := K283
theorem kq_284 : ckQ 284 = true := K284
theorem kq_285 : ckQ 285 = true := K285
theorem kq_286 : ckQ 286 = true := K286
theorem kq_287 : ckQ 287 = true := K287
theorem kq_288 : ckQ 288 = true := K288
theorem kq_289 : ckQ 289 = true := K289
def kqL_0 : List Nat := [0, 1, 2, 3, 4, 5, 6, 7, 8, 9, 10, 11, 12, 13, 14, 15, 16, 17, 18, 19, 20, 21, 22, 23]
theorem kqK_0 : ∀ j ∈ kqL_0, ckQ j = true := List.forall_mem_cons.mpr ⟨kq_0, List.forall_mem_cons.mpr ⟨kq_1, List.forall_mem_cons.mpr ⟨kq_2, List.forall_mem_cons.mpr ⟨kq_3, List.forall_mem_cons.mpr ⟨kq_4, List.forall_mem_cons.mpr ⟨kq_5, List.forall_mem_cons.mpr ⟨kq_6, List.forall_mem_cons.mpr ⟨kq_7, List.forall_mem_cons.mpr ⟨kq_8, List.forall_mem_cons.mpr ⟨kq_9, List.forall_mem_cons.mpr ⟨kq_10, List.forall_mem_cons.mpr ⟨kq_11, List.forall_mem_cons.mpr ⟨kq_12, List.forall_mem_cons.mpr ⟨kq_13, List.forall_mem_cons.mpr ⟨kq_14, List.forall_mem_cons.mpr ⟨kq_15, List.forall_mem_cons.mpr ⟨kq_16, List.forall_mem_cons.mpr ⟨kq_17, List.forall_mem_cons.mpr ⟨kq_18, List.forall_mem_cons.mpr ⟨kq_19, List.forall_mem_cons.mpr ⟨kq_20, List.forall_mem_cons.mpr ⟨kq_21, List.forall_mem_cons.mpr ⟨kq_22, List.forall_mem_cons.mpr ⟨kq_23, fun _ h => absurd h List.not_mem_nil⟩⟩⟩⟩⟩⟩⟩⟩⟩⟩⟩⟩⟩⟩⟩⟩⟩⟩⟩⟩⟩⟩⟩⟩
def kqL_1 : List Nat := [24, 25, 26, 27, 28, 29, 30, 31, 32, 33, 34, 35, 36, 37, 38, 39, 40, 41, 42, 43, 44, 45, 46, 47]
theorem kqK_1 : ∀ j ∈ kqL_1, ckQ j = true := List.forall_mem_cons.mpr ⟨kq_24, List.forall_mem_cons.mpr ⟨kq_25, List.forall_mem_cons.mpr ⟨kq_26, List.forall_mem_cons.mpr ⟨kq_27, List.forall_mem_cons.mpr ⟨kq_28, List.forall_mem_cons.mpr ⟨kq_29, List.forall_mem_cons.mpr ⟨kq_30, List.forall_mem_cons.mpr ⟨kq_31, List.forall_mem_cons.mpr ⟨kq_32, List.forall_mem_cons.mpr ⟨kq_33, List.forall_mem_cons.mpr ⟨kq_34, List.forall_mem_cons.mpr ⟨kq_35, List.forall_mem_cons.mpr ⟨kq_36, List.forall_mem_cons.mpr ⟨kq_37, List.forall_mem_cons.mpr ⟨kq_38, List.forall_mem_cons.mpr ⟨kq_39, List.forall_mem_cons.mpr ⟨kq_40, List.forall_mem_cons.mpr ⟨kq_41, List.forall_mem_cons.mpr ⟨kq_42, List.forall_mem_cons.mpr ⟨kq_43, List.forall_mem_cons.mpr ⟨kq_44, List.forall_mem_cons.mpr ⟨kq_45, List.forall_mem_cons.mpr ⟨kq_46, List.forall_mem_cons.mpr ⟨kq_47, fun _ h => absurd h List.not_mem_nil⟩⟩⟩⟩⟩⟩⟩⟩⟩⟩⟩⟩⟩⟩⟩⟩⟩⟩⟩⟩⟩⟩⟩⟩
def kqL_2 : List Nat := [48, 49, 50, 51, 52, 53, 54, 55, 56, 57, 58, 59, 60, 61, 62, 63, 64, 65, 66, 67, 68, 69, 70, 71]
theorem kqK_2 : ∀ j ∈ kqL_2, ckQ j = true := List.forall_mem_cons.mpr ⟨kq_48, List.forall_mem_cons.mpr ⟨kq_49, List.forall_mem_cons.mpr ⟨kq_50, List.forall_mem_cons.mpr ⟨kq_51, List.forall_mem_cons.mpr ⟨kq_52, List.forall_mem_cons.mpr ⟨kq_53, List.forall_mem_cons.mpr ⟨kq_54, List.forall_mem_cons.mpr ⟨kq_55, List.forall_mem_cons.mpr ⟨kq_56, List.forall_mem_cons.mpr ⟨kq_57, List.forall_mem_cons.mpr ⟨kq_58, List.forall_mem_cons.mpr ⟨kq_59, List.forall_mem_cons.mpr ⟨kq_60, List.forall_mem_cons.mpr ⟨kq_61, List.forall_mem_cons.mpr ⟨kq_62, List.forall_mem_cons.mpr ⟨kq_63, List.forall_mem_cons.mpr ⟨kq_64, List.forall_mem_cons.mpr ⟨kq_65, List.forall_mem_cons.mpr ⟨kq_66, List.forall_mem_cons.mpr ⟨kq_67, List.forall_mem_cons.mpr ⟨kq_68, List.forall_mem_cons.mpr ⟨kq_69, List.forall_mem_cons.mpr ⟨kq_70, List.forall_mem_cons.mpr ⟨kq_71, fun _ h => absurd h List.not_mem_nil⟩⟩⟩⟩⟩⟩⟩⟩⟩⟩⟩⟩⟩⟩⟩⟩⟩⟩⟩⟩⟩⟩⟩⟩
def kqL_3 : List Nat := [72, 73, 74, 75, 76, 77, 78, 79, 80, 81, 82, 83, 84, 85, 86, 87, 88, 89, 90, 91, 92, 93, 94, 95]
theorem kqK_3 : ∀ j ∈ kqL_3, ckQ j = true := List.forall_mem_cons.mpr ⟨kq_72, List.forall_mem_cons.mpr ⟨kq_73, List.forall_mem_cons.mpr ⟨kq_74, List.forall_mem_cons.mpr ⟨kq_75, List.forall_mem_cons.mpr ⟨kq_76, List.forall_mem_cons.mpr ⟨kq_77, List.forall_mem_cons.mpr ⟨kq_78, List.forall_mem_cons.mpr ⟨kq_79, List.forall_mem_cons.mpr ⟨kq_80, List.forall_mem_cons.mpr ⟨kq_81, List.forall_mem_cons.mpr ⟨kq_82, List.forall_mem_cons.mpr ⟨kq_83, List.forall_mem_cons.mpr ⟨kq_84, List.forall_mem_cons.mpr ⟨kq_85, List.forall_mem_cons.mpr ⟨kq_86, List.forall_mem_cons.mpr ⟨kq_87, List.forall_mem_cons.mpr ⟨kq_88, List.forall_mem_cons.mpr ⟨kq_89, List.forall_mem_cons.mpr ⟨kq_90, List.forall_mem_cons.mpr ⟨kq_91, List.forall_mem_cons.mpr ⟨kq_92, List.forall_mem_cons.mpr ⟨kq_93, List.forall_mem_cons.mpr ⟨kq_94, List.forall_mem_cons.mpr ⟨kq_95, fun _ h => absurd h List.not_mem_nil⟩⟩⟩⟩⟩⟩⟩⟩⟩⟩⟩⟩⟩⟩⟩⟩⟩⟩⟩⟩⟩⟩⟩⟩
def kqL_4 : List Nat := [96, 97, 98, 99, 100, 101, 102, 103, 104, 105, 106, 107, 108, 109, 110, 111, 112, 113, 114, 115, 116, 117, 118, 119]
theorem kqK_4 : ∀ j ∈ kqL_4, ckQ j = true := List.forall_mem_cons.mpr ⟨kq_96, List.forall_mem_cons.mpr ⟨kq_97, List.forall_mem_cons.mpr ⟨kq_98, List.forall_mem_cons.mpr ⟨kq_99, List.forall_mem_cons.mpr ⟨kq_100, List.forall_mem_cons.mpr ⟨kq_101, List.forall_mem_cons.mpr ⟨kq_102, List.forall_mem_cons.mpr ⟨kq_103, List.forall_mem_cons.mpr ⟨kq_104, List.forall_mem_cons.mpr ⟨kq_105, List.forall_mem_cons.mpr ⟨kq_106, List.forall_mem_cons.mpr ⟨kq_107, List.forall_mem_cons.mpr ⟨kq_108, List.forall_mem_cons.mpr ⟨kq_109, List.forall_mem_cons.mpr ⟨kq_110, List.forall_mem_cons.mpr ⟨kq_111, List.forall_mem_cons.mpr ⟨kq_112, List.forall_mem_cons.mpr ⟨kq_113, List.forall_mem_cons.mpr ⟨kq_114, List.forall_mem_cons.mpr ⟨kq_115, List.forall_mem_cons.mpr ⟨kq_116, List.forall_mem_cons.mpr ⟨kq_117, List.forall_mem_cons.mpr ⟨kq_118, List.forall_mem_cons.mpr ⟨kq_119, fun _ h => absurd h List.not_mem_nil⟩⟩⟩⟩⟩⟩⟩⟩⟩⟩⟩⟩⟩⟩⟩⟩⟩⟩⟩⟩⟩⟩⟩⟩
def kqL_5 : List Nat := [120, 121, 122, 123, 124, 125, 126, 127, 128, 129, 130, 131, 132, 133, 134, 135, 136, 137, 138, 139, 140, 141, 142, 143]
theorem kqK_5 : ∀ j ∈ kqL_5, ckQ j = true := List.forall_mem_cons.mpr ⟨kq_120, List.forall_mem_cons.mpr ⟨kq_121, List.forall_mem_cons.mpr ⟨kq_122, List.forall_mem_cons.mpr ⟨kq_123, List.forall_mem_cons.mpr ⟨kq_124, List.forall_mem_cons.mpr ⟨kq_125, List.forall_mem_cons.mpr ⟨kq_126, List.forall_mem_cons.mpr ⟨kq_127, List.forall_mem_cons.mpr ⟨kq_128, List.forall_mem_cons.mpr ⟨kq_129, List.forall_mem_cons.mpr ⟨kq_130, List.forall_mem_cons.mpr ⟨kq_131, List.forall_mem_cons.mpr ⟨kq_132, List.forall_mem_cons.mpr ⟨kq_133, List.forall_mem_cons.mpr ⟨kq_134, List.forall_mem_cons.mpr ⟨kq_135, List.forall_mem_cons.mpr ⟨kq_136, List.forall_mem_cons.mpr ⟨kq_137, List.forall_mem_cons.mpr ⟨kq_138, List.forall_mem_cons.mpr ⟨kq_139, List.forall_mem_cons.mpr ⟨kq_140, List.forall_mem_cons.mpr ⟨kq_141, List.forall_mem_cons.mpr ⟨kq_142, List.forall_mem_cons.mpr ⟨kq_143, fun _ h => absurd h List.not_mem_nil⟩⟩⟩⟩⟩⟩⟩⟩⟩⟩⟩⟩⟩⟩⟩⟩⟩⟩⟩⟩⟩⟩⟩⟩
def kqL_6 : List Nat := [144, 145, 146, 147, 148, 149, 150, 151, 152, 153, 154, 155, 156, 157, 158, 159, 160, 161, 162, 163, 164, 165, 166, 167]
theorem kqK_6 : ∀ j ∈ kqL_6, ckQ j = true := List.forall_mem_cons.mpr ⟨kq_144, List.forall_mem_cons.mpr ⟨kq_145, List.forall_mem_cons.mpr ⟨kq_146, List.forall_mem_cons.mpr ⟨kq_147, List.forall_mem_cons.mpr ⟨kq_148, List.forall_mem_cons.mpr ⟨kq_149, List.forall_mem_cons.mpr ⟨kq_150, List.forall_mem_cons.mpr ⟨kq_151, List.forall_mem_cons.mpr ⟨kq_152, List.forall_mem_cons.mpr ⟨kq_153, List.forall_mem_cons.mpr ⟨kq_154, List.forall_mem_cons.mpr ⟨kq_155, List.forall_mem_cons.mpr ⟨kq_156, List.forall_mem_cons.mpr ⟨kq_157, List.forall_mem_cons.mpr ⟨kq_158, List.forall_mem_cons.mpr ⟨kq_159, List.forall_mem_cons.mpr ⟨kq_160, List.forall_mem_cons.mpr ⟨kq_161, List.forall_mem_cons.mpr ⟨kq_162, List.forall_mem_cons.mpr ⟨kq_163, List.forall_mem_cons.mpr ⟨kq_164, List.forall_mem_cons.mpr ⟨kq_165, List.forall_mem_cons.mpr ⟨kq_166, List.forall_mem_cons.mpr ⟨kq_167, fun _ h => absurd h List.not_mem_nil⟩⟩⟩⟩⟩⟩⟩⟩⟩⟩⟩⟩⟩⟩⟩⟩⟩⟩⟩⟩⟩⟩⟩⟩
def kqL_7 : List Nat := [168, 169, 170, 171, 172, 173, 174, 175, 176, 177, 178, 179, 180, 181, 182, 183, 184, 185, 186, 187, 188, 189, 190, 191]
theorem kqK_7 : ∀ j ∈ kqL_7, ckQ j = true := List.forall_mem_cons.mpr ⟨kq_168, List.forall_mem_cons.mpr ⟨kq_169, List.forall_mem_cons.mpr ⟨kq_170, List.forall_mem_cons.mpr ⟨kq_171, List.forall_mem_cons.mpr ⟨kq_172, List.forall_mem_cons.mpr ⟨kq_173, List.forall_mem_cons.mpr ⟨kq_174, List.forall_mem_cons.mpr ⟨kq_175, List.forall_mem_cons.mpr ⟨kq_176, List.forall_mem_cons.mpr ⟨kq_177, List.forall_mem_cons.mpr ⟨kq_178, List.forall_mem_cons.mpr ⟨kq_179, List.forall_mem_cons.mpr ⟨kq_180, List.forall_mem_cons.mpr ⟨kq_181, List.forall_mem_cons.mpr ⟨kq_182, List.forall_mem_cons.mpr ⟨kq_183, List.forall_mem_cons.mpr ⟨kq_184, List.forall_mem_cons.mpr ⟨kq_185, List.forall_mem_cons.mpr ⟨kq_186, List.forall_mem_cons.mpr ⟨kq_187, List.forall_mem_cons.mpr ⟨kq_188, List.forall_mem_cons.mpr ⟨kq_189, List.forall_mem_cons.mpr ⟨kq_190, List.forall_mem_cons.mpr ⟨kq_191, fun _ h => absurd h List.not_mem_nil⟩⟩⟩⟩⟩⟩⟩⟩⟩⟩⟩⟩⟩⟩⟩⟩⟩⟩⟩⟩⟩⟩⟩⟩
def kqL_8 : List Nat := [192, 193, 194, 195, 196, 197, 198, 199, 200, 201, 202, 203, 204, 205, 206, 207, 208, 209, 210, 211, 212, 213, 214, 215]
theorem kqK_8 : ∀ j ∈ kqL_8, ckQ j = true := List.forall_mem_cons.mpr ⟨kq_192, List.forall_mem_cons.mpr ⟨kq_193, List.forall_mem_cons.mpr ⟨kq_194, List.forall_mem_cons.mpr ⟨kq_195, List.forall_mem_cons.mpr ⟨kq_196, List.forall_mem_cons.mpr ⟨kq_197, List.forall_mem_cons.mpr ⟨kq_198, List.forall_mem_cons.mpr ⟨kq_199, List.forall_mem_cons.mpr ⟨kq_200, List.forall_mem_cons.mpr ⟨kq_201, List.forall_mem_cons.mpr ⟨kq_202, List.forall_mem_cons.mpr ⟨kq_203, List.forall_mem_cons.mpr ⟨kq_204, List.forall_mem_cons.mpr ⟨kq_205, List.forall_mem_cons.mpr ⟨kq_206, List.forall_mem_cons.mpr ⟨kq_207, List.forall_mem_cons.mpr ⟨kq_208, List.forall_mem_cons.mpr ⟨kq_209, List.forall_mem_cons.mpr ⟨kq_210, List.forall_mem_cons.mpr ⟨kq_211, List.forall_mem_cons.mpr ⟨kq_212, List.forall_mem_cons.mpr ⟨kq_213, List.forall_mem_cons.mpr ⟨kq_214, List.forall_mem_cons.mpr ⟨kq_215, fun _ h => absurd h List.not_mem_nil⟩⟩⟩⟩⟩⟩⟩⟩⟩⟩⟩⟩⟩⟩⟩⟩⟩⟩⟩⟩⟩⟩⟩⟩
def kqL_9 : List Nat := [216, 217, 218, 219, 220, 221, 222, 223, 224, 225, 226, 227, 228, 229, 230, 231, 232, 233, 234, 235, 236, 237, 238, 239]
theorem kqK_9 : ∀ j ∈ kqL_9, ckQ j = true := List.forall_mem_cons.mpr ⟨kq_216, List.forall_mem_cons.mpr ⟨kq_217, List.forall_mem_cons.mpr ⟨kq_218, List.forall_mem_cons.mpr ⟨kq_219, List.forall_mem_cons.mpr ⟨kq_220, List.forall_mem_cons.mpr ⟨kq_221, List.forall_mem_cons.mpr ⟨kq_222, List.forall_mem_cons.mpr ⟨kq_223, List.forall_mem_cons.mpr ⟨kq_224, List.forall_mem_cons.mpr ⟨kq_225, List.forall_mem_cons.mpr ⟨kq_226, List.forall_mem_cons.mpr ⟨kq_227, List.forall_mem_cons.mpr ⟨kq_228, List.forall_mem_cons.mpr ⟨kq_229, List.forall_mem_cons.mpr ⟨kq_230, List.forall_mem_cons.mpr ⟨kq_231, List.forall_mem_cons.mpr ⟨kq_232, List.forall_mem_cons.mpr ⟨kq_233, List.forall_mem_cons.mpr ⟨kq_234, List.forall_mem_cons.mpr ⟨kq_235, List.forall_mem_cons.mpr ⟨kq_236, List.forall_mem_cons.mpr ⟨kq_237, List.forall_mem_cons.mpr ⟨kq_238, List.forall_mem_cons.mpr ⟨kq_239, fun _ h => absurd h List.not_mem_nil⟩⟩⟩⟩⟩⟩⟩⟩⟩⟩⟩⟩⟩⟩⟩⟩⟩⟩⟩⟩⟩⟩⟩⟩
def kqL_10 : List Nat := [240, 241, 242, 243, 244, 245, 246, 247, 248, 249, 250, 251, 252, 253, 254, 255, 256, 257, 258, 259, 260, 261, 262, 263]
theorem kqK_10 : ∀ j ∈ kqL_10, ckQ j = true := List.forall_mem_cons.mpr ⟨kq_240, List.forall_mem_cons.mpr ⟨kq_241, List.forall_mem_cons.mpr ⟨kq_242, List.forall_mem_cons.mpr ⟨kq_243, List.forall_mem_cons.mpr ⟨kq_244, List.forall_mem_cons.mpr ⟨kq_245, List.forall_mem_cons.mpr ⟨kq_246, List.forall_mem_cons.mpr ⟨kq_247, List.forall_mem_cons.mpr ⟨kq_248, List.forall_mem_cons.mpr ⟨kq_249, List.forall_mem_cons.mpr ⟨kq_250, List.forall_mem_cons.mpr ⟨kq_251, List.forall_mem_cons.mpr ⟨kq_252, List.forall_mem_cons.mpr ⟨kq_253, List.forall_mem_cons.mpr ⟨kq_254, List.forall_mem_cons.mpr ⟨kq_255, List.forall_mem_cons.mpr ⟨kq_256, List.forall_mem_cons.mpr ⟨kq_257, List.forall_mem_cons.mpr ⟨kq_258, List.forall_mem_cons.mpr ⟨kq_259, List.forall_mem_cons.mpr ⟨kq_260, List.forall_mem_cons.mpr ⟨kq_261, List.forall_mem_cons.mpr ⟨kq_262, List.forall_mem_cons.mpr ⟨kq_263, fun _ h => absurd h List.not_mem_nil⟩⟩⟩⟩⟩⟩⟩⟩⟩⟩⟩⟩⟩⟩⟩⟩⟩⟩⟩⟩⟩⟩⟩⟩
def kqL_11 : List Nat := [264, 265, 266, 267, 268, 269, 270, 271, 272, 273, 274, 275, 276, 277, 278, 279, 280, 281, 282, 283, 284, 285, 286, 287]
theorem kqK_11 : ∀ j ∈ kqL_11, ckQ j = true := List.forall_mem_cons.mpr ⟨kq_264, List.forall_mem_cons.mpr ⟨kq_265, List.forall_mem_cons.mpr ⟨kq_266, List.forall_mem_cons.mpr ⟨kq_267, List.forall_mem_cons.mpr ⟨kq_268, List.forall_mem_cons.mpr ⟨kq_269, List.forall_mem_cons.mpr ⟨kq_270, List.forall_mem_cons.mpr ⟨kq_271, List.forall_mem_cons.mpr ⟨kq_272, List.forall_mem_cons.mpr ⟨kq_273, List.forall_mem_cons.mpr ⟨kq_274, List.forall_mem_cons.mpr ⟨kq_275, List.forall_mem_cons.mpr ⟨kq_276, List.forall_mem_cons.mpr ⟨kq_277, List.forall_mem_cons.mpr ⟨kq_278, List.forall_mem_cons.mpr ⟨kq_279, List.forall_mem_cons.mpr ⟨kq_280, List.forall_mem_cons.mpr ⟨kq_281, List.forall_mem_cons.mpr ⟨kq_282, List.forall_mem_cons.mpr ⟨kq_283, List.forall_mem_cons.mpr ⟨kq_284, List.forall_mem_cons.mpr ⟨kq_285, List.forall_mem_cons.mpr ⟨kq_286, List.forall_mem_cons.mpr ⟨kq_287, fun _ h => absurd h List.not_mem_nil⟩⟩⟩⟩⟩⟩⟩⟩⟩⟩⟩⟩⟩⟩⟩⟩⟩⟩⟩⟩⟩⟩⟩⟩
def kqL_12 : List Nat := [288, 289]
theorem kqK_12 : ∀ j ∈ kqL_12, ckQ j = true := List.forall_mem_cons.mpr ⟨kq_288, List.forall_mem_cons.mpr ⟨kq_289, fun _ h => absurd h List.not_mem_nil⟩⟩
def kqL : List Nat := kqL_0 ++ (kqL_1 ++ (kqL_2 ++ (kqL_3 ++ (kqL_4 ++ (kqL_5 ++ (kqL_6 ++ (kqL_7 ++ (kqL_8 ++ (kqL_9 ++ (kqL_10 ++ (kqL_11 ++ (kqL_12))))))))))))
theorem kq_all : ∀ j ∈ kqL, ckQ j = true := List.forall_mem_append.mpr ⟨kqK_0, List.forall_mem_append.mpr ⟨kqK_1, List.forall_mem_append.mpr ⟨kqK_2, List.forall_mem_append.mpr ⟨kqK_3, List.forall_mem_append.mpr ⟨kqK_4, List.forall_mem_append.mpr ⟨kqK_5, List.forall_mem_append.mpr ⟨kqK_6, List.forall_mem_append.mpr ⟨kqK_7, List.forall_mem_append.mpr ⟨kqK_8, List.forall_mem_append.mpr ⟨kqK_9, List.forall_mem_append.mpr ⟨kqK_10, List.forall_mem_append.mpr ⟨kqK_11, kqK_12⟩⟩⟩⟩⟩⟩⟩⟩⟩⟩⟩⟩
theorem kq_in : ∀ j, j < 290 → j ∈ kqL ∧ j ∈ coL ∧ ow j ≠ 13 ∧ j < 292 := by decide +kernel
theorem jm_all : ∀ j, j < 291 → (PL j).all (fun q => jmpB q.2 q.1) = true := by decide +kernel
theorem lr_own : ∀ q ∈ MLs, q.2.2 = 291 → q.1 = 13 := by decide +kernel
/-- the methods: all but the law's two -/
def PP (j : Nat) : Option (Nat × Option FieldType × List (Nat × List Instr)) := if j < 290 then some (ml j, rr j, PL j) else none
theorem Ev_MC {l : Launch} {D : va_G} {cy : Nat → ClassId} {b : Nat} {xo : Nat → Option Nat} {L : Nat} {xs : Nat → Int32} {EX : Nat → Nat → List Value → mm_M → Option Value → mm_M → Prop} (hX : ∀ d j a M r M1, EX d j a M r M1 → j = 291) (hXz : ∀ d j a M r M1, EX d j a M r M1 → mS M ≤ mS M1 ∧ mW M ≤ mW M1) :
    ∀ d j a M r M1, j ≠ 291 → Ev L xs ac kd PP EX d j a M r M1 → MC l D cy b xo L xs d j a M r M1 := by
  intro d
  induction d with
  | zero => intro j a M r M1 _ h; exact h.elim
  | succ d ih =>
    intro j a M r M1 hj h
    unfold Ev at h
    split at h
    · rename_i nL rt bs hP
      unfold PP at hP
      split at hP
      · rename_i hlt
        cases hP
        obtain ⟨hln, n, hn⟩ := h
        obtain ⟨hk1, hk2, hk3, hk4⟩ := kq_in j hlt
        have hck := kq_all j hk1
        have hjm := jm_all j (by omega)
        obtain ⟨hcl, how⟩ := cls_all j hk4
        refine Met_ofWF (cc := bb j) (maxL := ml j) (ret := rr j) (ws' := gT) (plf_all hk4) rfl ?_
        intro p e s m args below meth c s₁ B hml hv
        obtain ⟨rfl, hW, hK, hE, hbs⟩ := hv
        have hts := atoms_spec (ws := wJ j) B.pre
        have hown : s.vm.findClass (on (ow j)) = some m.cls := by rw [← hcl]; exact findClass_of_methodNamed B.named
        have hin : inj j = true → meth.name = "<init>" := fun q => ((name_of_methodNamed B.named B.method).1).trans (inj_ok j hk4 q)
        have hlocks := B.notSynchronized
        have hr := B.returns
        have hC : CX p s m (a.map (cv b xo)).toArray c (bb j) (ow j) (ml j) D cy b xo L xs := ⟨B.exec, B.bytes, hml, hown, fun w hw => hts w (List.mem_cons_of_mem _ hw), hK, hE, hbs⟩
        have hz := XN_size (z := mS M1) (w := mW M1) (Ev_size hXz d) (fun v M2 hv => by rw [hv.2]; exact ⟨Nat.le_refl _, Nat.le_refl _⟩) n _ _ _ _ hn
        rw [lg_entry_eq]
        have key := XN_W (Qf := MQ below (QcJ D cy b xo r M1) (a.map (cv b xo)).toArray s (mS M1 - mS M) (mW M1 - mW M) (AA b)) (R := (headSpec (wJ j) (rmJ (d + 1) M M1)).room) (l := l) (e := e) (below := below) (meth := meth) (z := mS M1) (w := mW M1) (z0 := mS M) (w0 := mW M) (d := d) (ini := inj j) hC hin (Nat.le_refl _) (Nat.le_refl _) (Nat.le_refl _) (Nat.le_refl _) ih (Ev_size hXz d)
          (fun x pc a rest M r M1 H locs rl cells slots h1 => absurd (lr_own _ h1 rfl) hk3)
          (fun q hq => ⟨List.all_eq_true.mp hck q hq, List.all_eq_true.mp hjm q hq⟩) (fun v M2 hv => by rw [hv.2]; exact ⟨Nat.le_refl _, Nat.le_refl _⟩) ?_ n 0 _ _ M hn (by unfold lay0; rw [List.length_append, List.length_replicate]; omega) (Nat.le_refl _) (Nat.le_refl _) s.heap [] _ hW va_S.rf (lay_has hln)
        · exact Wc key (Nat.sub_self _) (Nat.sub_self _)
        · intro v M2 hv H1 locs1 rl1 pc1 hW1 hS1 hq
          obtain ⟨rfl, rfl⟩ := hv
          rcases hq with ⟨x, ty, rfl, hty, hd, hnr⟩ | ⟨x, rfl, hty, hd⟩ | ⟨rfl, hty, hd⟩
          · exact W.zret hC.1 hC.2.1 (hr.trans hty) hnr (fun t ht _ => ⟨rfl, by rw [ht]; exact hW1, hS1.F ht⟩) hS1.2.2 hd hlocks
          · exact W.lret hC.1 hC.2.1 (hr.trans hty) (fun t ht _ => ⟨rfl, by rw [ht]; exact hW1, hS1.F ht⟩) hS1.2.2 hd hlocks
          · exact W.vret hC.1 hC.2.1 (hr.trans hty) (fun t ht _ => ⟨rfl, by rw [ht]; exact hW1, hS1.F ht⟩) hS1.2.2 hd hlocks
      · cases hP
    · exact absurd (hX _ _ _ _ _ _ h) hj
end
section
/-! runs of the small machine, by hand -/
abbrev GG : Type := Nat × (Nat → Int32) × (Nat → Nat → List Value → mm_M → Option Value → mm_M → Prop)
def Cl (G : GG) (d : Nat) : Nat → List Value → mm_M → Option Value → mm_M → Prop := Ev G.1 G.2.1 ac kd PP G.2.2 d
def XX (G : GG) (d : Nat) (rt : Option FieldType) (bs : List (Nat × List Instr)) (Q : Option Value → mm_M → Prop) (pc : Nat) (ls st : List Value) (M : mm_M) : Prop := X G.1 G.2.1 ac kd (Cl G d) rt bs Q pc ls st M
def BB (G : GG) (d : Nat) (rt : Option FieldType) (bs : List (Nat × List Instr)) (Q : Option Value → mm_M → Prop) (t : List Instr) (pc : Nat) (ls st : List Value) (M : mm_M) : Prop := bl G.1 G.2.1 ac kd (Cl G d) rt (XX G d rt bs Q) Q t pc ls st M
theorem XX_at {G : GG} {d : Nat} {rt : Option FieldType} {bs : List (Nat × List Instr)} {Q : Option Value → mm_M → Prop} {pc : Nat} {ls st : List Value} {M : mm_M} (b : List Instr) (hb : bs.lookup pc = some b) (h : BB G d rt bs Q b pc ls st M) : XX G d rt bs Q pc ls st M := X_at b hb h
theorem Cl_in {G : GG} {d j nL : Nat} {rt : Option FieldType} {bs : List (Nat × List Instr)} {a : List Value} {M : mm_M} {r : Option Value} {M' : mm_M} (hP : PP j = some (nL, rt, bs)) (hl : (lay a).length ≤ nL) (h : XX G d rt bs (fun v M1 => v = r ∧ M1 = M') 0 (lay0 a nL) [] M) : Cl G (d + 1) j a M r M' := by
  show Ev G.1 G.2.1 ac kd PP G.2.2 (d + 1) j a M r M'
  unfold Ev
  rw [hP]
  exact ⟨hl, h⟩
/-! det -/
section
variable {L : Nat} {xs : Nat → Int32} {ac kd : Nat → Nat} {E : Nat → List Value → mm_M → Option Value → mm_M → Prop} {rt : Option FieldType}
/-- a run has one end -/
theorem bl_det {C : Prop} {K K' : Nat → List Value → List Value → mm_M → Prop} {Q Q' : Option Value → mm_M → Prop} (hE : ∀ j a M r M1 r' M1', E j a M r M1 → E j a M r' M1' → r = r' ∧ M1 = M1') (hK : ∀ a b c M, K a b c M → K' a b c M → C) (hQ : ∀ v M, Q v M → Q' v M → C) : ∀ (t : List Instr) (pc : Nat) (ls st : List Value) (M : mm_M), bl L xs ac kd E rt K Q t pc ls st M → bl L xs ac kd E rt K' Q' t pc ls st M → C := by
  intro t
  induction t with
  | nil => intro pc ls st M h h'; exact hK _ _ _ _ h h'
  | cons i t ih =>
    intro pc ls st M h h'
    unfold bl at h h'
    split at h
    · exact hK _ _ _ _ h h'
    · split at h
      · rename_i c off st' x st
        by_cases hc : c0 c x
        · exact hK _ _ _ _ (h.1 hc) (h'.1 hc)
        · exact ih _ _ _ _ (h.2 hc) (h'.2 hc)
      · exact h.elim
    · split at h
      · rename_i c off st' y x st
        by_cases hc : c2 c x y
        · exact hK _ _ _ _ (h.1 hc) (h'.1 hc)
        · exact ih _ _ _ _ (h.2 hc) (h'.2 hc)
      · exact h.elim
    · split at h
      · rename_i d lo hi offs st' x st
        by_cases hc : x.toInt < lo ∨ hi < x.toInt
        · exact hK _ _ _ _ (h.1 hc) (h'.1 hc)
        · obtain ⟨off, ho, h1⟩ := h.2 hc
          obtain ⟨off', ho', h1'⟩ := h'.2 hc
          cases ho.symm.trans ho'
          exact hK _ _ _ _ h1 h1'
      · exact h.elim
    · split at h
      · exact hQ _ _ h.2 h'.2
      · exact h.elim
    · split at h
      · exact hQ _ _ h h'
      · exact h.elim
    · split at h
      · exact hQ _ _ h h'
      · exact h.elim
    · split at h
      · split at h
        · exact ih _ _ _ _ h.2 h'.2
        · exact h.elim
      · split at h
        · exact ih _ _ _ _ h.2 h'.2
        · exact h.elim
      · rename_i hj1 hj2
        simp only [hj1, hj2] at h'
        obtain ⟨h0, r, M1, hE1, h2⟩ := h
        obtain ⟨h0', r', M1', hE1', h2'⟩ := h'
        obtain ⟨rfl, rfl⟩ := hE _ _ _ _ _ _ _ hE1 hE1'
        exact ih _ _ _ _ h2 h2'
    · split at h
      · split at h
        · exact ih _ _ _ _ h.2 h'.2
        · exact h.elim
      · rename_i hj1
        simp only [hj1] at h'
        obtain ⟨g0, h0, r, M1, hE1, h2⟩ := h
        obtain ⟨g0', h0', r', M1', hE1', h2'⟩ := h'
        obtain ⟨rfl, rfl⟩ := hE _ _ _ _ _ _ _ hE1 hE1'
        exact ih _ _ _ _ h2 h2'
    · obtain ⟨g0, h0, r, M1, hE1, h2⟩ := h
      obtain ⟨g0', h0', r', M1', hE1', h2'⟩ := h'
      obtain ⟨rfl, rfl⟩ := hE _ _ _ _ _ _ _ hE1 hE1'
      exact ih _ _ _ _ h2 h2'
    · split at h
      · rename_i ls' st' hs
        simp only [hs] at h'
        exact ih _ _ _ _ h h'
      · rename_i hs
        simp only [hs] at h'
        split at h
        · rename_i hh
          simp only [hh] at h'
          exact ih _ _ _ _ h.2 h'.2
        · exact h.elim
/-- the end of a run -/
theorem bl_qx {K : Nat → List Value → List Value → mm_M → Prop} {K' : Option Value → mm_M → Nat → List Value → List Value → mm_M → Prop} {Q : Option Value → mm_M → Prop} (hK : ∀ a b c M, K a b c M → ∃ r M1, Q r M1 ∧ K' r M1 a b c M) : ∀ (t : List Instr) (pc : Nat) (ls st : List Value) (M : mm_M), bl L xs ac kd E rt K Q t pc ls st M → ∃ r M1, Q r M1 ∧ bl L xs ac kd E rt (K' r M1) (fun v M2 => v = r ∧ M2 = M1) t pc ls st M := by
  intro t
  induction t with
  | nil => intro pc ls st M h; exact hK _ _ _ _ h
  | cons i t ih =>
    intro pc ls st M h
    unfold bl at h ⊢
    split at h
    · exact hK _ _ _ _ h
    · split at h
      · rename_i c off st' x st
        by_cases hc : c0 c x
        · obtain ⟨r, M1, hq, h1⟩ := hK _ _ _ _ (h.1 hc)
          exact ⟨r, M1, hq, fun _ => h1, fun z => absurd hc z⟩
        · obtain ⟨r, M1, hq, h1⟩ := ih _ _ _ _ (h.2 hc)
          exact ⟨r, M1, hq, fun z => absurd z hc, fun _ => h1⟩
      · exact h.elim
    · split at h
      · rename_i c off st' y x st
        by_cases hc : c2 c x y
        · obtain ⟨r, M1, hq, h1⟩ := hK _ _ _ _ (h.1 hc)
          exact ⟨r, M1, hq, fun _ => h1, fun z => absurd hc z⟩
        · obtain ⟨r, M1, hq, h1⟩ := ih _ _ _ _ (h.2 hc)
          exact ⟨r, M1, hq, fun z => absurd z hc, fun _ => h1⟩
      · exact h.elim
    · split at h
      · rename_i d lo hi offs st' x st
        by_cases hc : x.toInt < lo ∨ hi < x.toInt
        · obtain ⟨r, M1, hq, h1⟩ := hK _ _ _ _ (h.1 hc)
          exact ⟨r, M1, hq, fun _ => h1, fun z => absurd hc z⟩
        · obtain ⟨off, ho, h0⟩ := h.2 hc
          obtain ⟨r, M1, hq, h1⟩ := hK _ _ _ _ h0
          exact ⟨r, M1, hq, fun z => absurd z hc, fun _ => ⟨off, ho, h1⟩⟩
      · exact h.elim
    · split at h
      · exact ⟨_, _, h.2, h.1, rfl, rfl⟩
      · exact h.elim
    · split at h
      · exact ⟨_, _, h, rfl, rfl⟩
      · exact h.elim
    · split at h
      · exact ⟨_, _, h, rfl, rfl⟩
      · exact h.elim
    · split at h
      · split at h
        · obtain ⟨r, M1, hq, h1⟩ := ih _ _ _ _ h.2
          exact ⟨r, M1, hq, h.1, h1⟩
        · exact h.elim
      · split at h
        · obtain ⟨r, M1, hq, h1⟩ := ih _ _ _ _ h.2
          exact ⟨r, M1, hq, h.1, h1⟩
        · exact h.elim
      · obtain ⟨h0, r0, M0, hE1, h2⟩ := h
        obtain ⟨r, M1, hq, h1⟩ := ih _ _ _ _ h2
        exact ⟨r, M1, hq, h0, r0, M0, hE1, h1⟩
    · split at h
      · split at h
        · obtain ⟨r, M1, hq, h1⟩ := ih _ _ _ _ h.2
          exact ⟨r, M1, hq, h.1, h1⟩
        · exact h.elim
      · obtain ⟨g0, h0, r0, M0, hE1, h2⟩ := h
        obtain ⟨r, M1, hq, h1⟩ := ih _ _ _ _ h2
        exact ⟨r, M1, hq, g0, h0, r0, M0, hE1, h1⟩
    · obtain ⟨g0, h0, r0, M0, hE1, h2⟩ := h
      obtain ⟨r, M1, hq, h1⟩ := ih _ _ _ _ h2
      exact ⟨r, M1, hq, g0, h0, r0, M0, hE1, h1⟩
    · split at h
      · exact ih _ _ _ _ h
      · split at h
        · obtain ⟨r, M1, hq, h1⟩ := ih _ _ _ _ h.2
          exact ⟨r, M1, hq, h.1, h1⟩
        · exact h.elim
theorem XN_det {C : Prop} {bs : List (Nat × List Instr)} {Q Q' : Option Value → mm_M → Prop} (hE : ∀ j a M r M1 r' M1', E j a M r M1 → E j a M r' M1' → r = r' ∧ M1 = M1') (hQ : ∀ v M, Q v M → Q' v M → C) : ∀ (n n' pc : Nat) (ls st : List Value) (M : mm_M), XN L xs ac kd E rt bs Q n pc ls st M → XN L xs ac kd E rt bs Q' n' pc ls st M → C := by
  intro n
  induction n with
  | zero => intro n' pc ls st M h; exact h.elim
  | succ n ih =>
    intro n' pc ls st M h h'
    cases n' with
    | zero => exact h'.elim
    | succ n' =>
      unfold XN at h h'
      split at h
      · rename_i bk hbk
        rw [hbk] at h'
        exact bl_det hE (fun a b c M q q' => ih n' a b c M q q') hQ bk pc ls st M h h'
      · exact h.elim
theorem XN_qx {bs : List (Nat × List Instr)} {Q : Option Value → mm_M → Prop} : ∀ (n pc : Nat) (ls st : List Value) (M : mm_M), XN L xs ac kd E rt bs Q n pc ls st M → ∃ r M1, Q r M1 ∧ XN L xs ac kd E rt bs (fun v M2 => v = r ∧ M2 = M1) n pc ls st M := by
  intro n
  induction n with
  | zero => intro pc ls st M h; exact h.elim
  | succ n ih =>
    intro pc ls st M h
    unfold XN at h
    split at h
    · rename_i bk hbk
      obtain ⟨r, M1, hq, h1⟩ := bl_qx (K' := fun r M1 => XN L xs ac kd E rt bs (fun v M2 => v = r ∧ M2 = M1) n) (fun a b c M q => ih a b c M q) bk pc ls st M h
      refine ⟨r, M1, hq, ?_⟩
      unfold XN
      rw [hbk]
      exact h1
    · exact h.elim
end
theorem Ev_det {L : Nat} {xs : Nat → Int32} {ac kd : Nat → Nat} {P : Nat → Option (Nat × Option FieldType × List (Nat × List Instr))} {EX : Nat → Nat → List Value → mm_M → Option Value → mm_M → Prop} (hX : ∀ d j a M r M1 r' M1', EX d j a M r M1 → EX d j a M r' M1' → r = r' ∧ M1 = M1') : ∀ d j a M r M1 r' M1', Ev L xs ac kd P EX d j a M r M1 → Ev L xs ac kd P EX d j a M r' M1' → r = r' ∧ M1 = M1' := by
  intro d
  induction d with
  | zero => intro j a M r M1 r' M1' h; exact h.elim
  | succ d ih =>
    intro j a M r M1 r' M1' h h'
    unfold Ev at h h'
    split at h
    · rename_i hP
      rw [hP] at h'
      obtain ⟨-, n, h⟩ := h
      obtain ⟨-, n', h'⟩ := h'
      exact XN_det ih (fun v M hv hv' => ⟨hv.1.symm.trans hv'.1, hv.2.symm.trans hv'.2⟩) n n' _ _ _ _ h h'
    · rename_i hP
      rw [hP] at h'
      exact hX _ _ _ _ _ _ _ _ h h'
/-- what G says beside is of one end -/
def Gd (G : GG) : Prop := ∀ d j a M r M1 r' M1', G.2.2 d j a M r M1 → G.2.2 d j a M r' M1' → r = r' ∧ M1 = M1'
def CI (G : GG) (d j : Nat) (a : List Value) (M : mm_M) (P : Int32 → mm_M → Prop) : Prop := ∃ v M1, Cl G d j a M (some (.int v)) M1 ∧ P v M1
def CJ (G : GG) (d j : Nat) (a : List Value) (M : mm_M) (P : Int64 → mm_M → Prop) : Prop := ∃ v M1, Cl G d j a M (some (.long v)) M1 ∧ P v M1
def CV (G : GG) (d j : Nat) (a : List Value) (M : mm_M) (P : mm_M → Prop) : Prop := ∃ M1, Cl G d j a M none M1 ∧ P M1
def QI (P : Int32 → mm_M → Prop) : Option Value → mm_M → Prop := fun v M => ∃ x, v = some (.int x) ∧ P x M
def QJ (P : Int64 → mm_M → Prop) : Option Value → mm_M → Prop := fun v M => ∃ x, v = some (.long x) ∧ P x M
def QV (P : mm_M → Prop) : Option Value → mm_M → Prop := fun v M => v = none ∧ P M
section
variable {G : GG} {d j nL : Nat} {rt : Option FieldType} {bs : List (Nat × List Instr)} {a : List Value} {M : mm_M}
theorem XX_qx {Q : Option Value → mm_M → Prop} {pc : Nat} {ls st : List Value} (h : XX G d rt bs Q pc ls st M) : ∃ r M1, Q r M1 ∧ XX G d rt bs (fun v M2 => v = r ∧ M2 = M1) pc ls st M := by
  obtain ⟨n, h⟩ := h
  obtain ⟨r, M1, hq, h1⟩ := XN_qx n _ _ _ _ h
  exact ⟨r, M1, hq, n, h1⟩
theorem CI_in {P : Int32 → mm_M → Prop} (hP : PP j = some (nL, rt, bs)) (hl : (lay a).length ≤ nL) (h : XX G d rt bs (QI P) 0 (lay0 a nL) [] M) : CI G (d + 1) j a M P := by
  obtain ⟨r, M1, ⟨x, rfl, hq⟩, h1⟩ := XX_qx h
  exact ⟨x, M1, Cl_in hP hl h1, hq⟩
theorem CJ_in {P : Int64 → mm_M → Prop} (hP : PP j = some (nL, rt, bs)) (hl : (lay a).length ≤ nL) (h : XX G d rt bs (QJ P) 0 (lay0 a nL) [] M) : CJ G (d + 1) j a M P := by
  obtain ⟨r, M1, ⟨x, rfl, hq⟩, h1⟩ := XX_qx h
  exact ⟨x, M1, Cl_in hP hl h1, hq⟩
theorem CV_in {P : mm_M → Prop} (hP : PP j = some (nL, rt, bs)) (hl : (lay a).length ≤ nL) (h : XX G d rt bs (QV P) 0 (lay0 a nL) [] M) : CV G (d + 1) j a M P := by
  obtain ⟨r, M1, ⟨rfl, hq⟩, h1⟩ := XX_qx h
  exact ⟨M1, Cl_in hP hl h1, hq⟩
theorem CI_iff (hG : Gd G) {v : Int32} {M1 : mm_M} (h : CI G d j a M (fun x N => x = v ∧ N = M1)) (P : Int32 → mm_M → Prop) : CI G d j a M P ↔ P v M1 := by
  obtain ⟨x, N, hc, rfl, rfl⟩ := h
  constructor
  · rintro ⟨y, N', hc', hp⟩
    obtain ⟨e1, rfl⟩ := Ev_det hG d j a M _ _ _ _ hc hc'
    cases e1
    exact hp
  · intro hp
    exact ⟨x, N, hc, hp⟩
theorem CJ_iff (hG : Gd G) {v : Int64} {M1 : mm_M} (h : CJ G d j a M (fun x N => x = v ∧ N = M1)) (P : Int64 → mm_M → Prop) : CJ G d j a M P ↔ P v M1 := by
  obtain ⟨x, N, hc, rfl, rfl⟩ := h
  constructor
  · rintro ⟨y, N', hc', hp⟩
    obtain ⟨e1, rfl⟩ := Ev_det hG d j a M _ _ _ _ hc hc'
    cases e1
    exact hp
  · intro hp
    exact ⟨x, N, hc, hp⟩
theorem CV_iff (hG : Gd G) {M1 : mm_M} (h : CV G d j a M (fun N => N = M1)) (P : mm_M → Prop) : CV G d j a M P ↔ P M1 := by
  obtain ⟨N, hc, rfl⟩ := h
  constructor
  · rintro ⟨N', hc', hp⟩
    obtain ⟨e1, rfl⟩ := Ev_det hG d j a M _ _ _ _ hc hc'
    exact hp
  · intro hp
    exact ⟨N, hc, hp⟩
theorem CI_mono {P P' : Int32 → mm_M → Prop} (h : CI G d j a M P) (hp : ∀ v N, P v N → P' v N) : CI G d j a M P' := by
  obtain ⟨v, N, h1, h2⟩ := h
  exact ⟨v, N, h1, hp v N h2⟩
theorem CJ_mono {P P' : Int64 → mm_M → Prop} (h : CJ G d j a M P) (hp : ∀ v N, P v N → P' v N) : CJ G d j a M P' := by
  obtain ⟨v, N, h1, h2⟩ := h
  exact ⟨v, N, h1, hp v N h2⟩
theorem CV_mono {P P' : mm_M → Prop} (h : CV G d j a M P) (hp : ∀ N, P N → P' N) : CV G d j a M P' := by
  obtain ⟨N, h1, h2⟩ := h
  exact ⟨N, h1, hp N h2⟩
end
end
section
/-! a run that does with fewer locals does with more -/
def lsle : List Value → List Value → Prop
  | [], [] => True
  | a :: t, c :: u => (a = c ∨ a = jk) ∧ lsle t u
  | _, _ => False
theorem lsle_rfl : ∀ a, lsle a a
  | [] => trivial
  | _ :: t => ⟨Or.inl rfl, lsle_rfl t⟩
theorem lsle_get : ∀ {a c : List Value} {i : Nat} {v : Value}, lsle a c → a[i]? = some v → v ≠ jk → c[i]? = some v
  | [], [], i, v, _, h, _ => by simp at h
  | x :: t, y :: u, 0, v, h, hv, hj => by
    have e : x = v := Option.some.inj hv
    rcases h.1 with h1 | h1
    · rw [← e, h1]; rfl
    · exact absurd (e.symm.trans h1) hj
  | x :: t, y :: u, i + 1, v, h, hv, hj => lsle_get (a := t) (c := u) (i := i) h.2 hv hj
theorem lsle_len : ∀ {a c : List Value}, lsle a c → a.length = c.length
  | [], [], _ => rfl
  | _ :: t, _ :: u, h => by rw [List.length_cons, List.length_cons, lsle_len h.2]
theorem lsle_set : ∀ {a c : List Value} (i : Nat) (v : Value), lsle a c → lsle (a.set i v) (c.set i v)
  | [], [], _, _, _ => trivial
  | _ :: t, _ :: u, 0, v, h => ⟨Or.inl rfl, h.2⟩
  | _ :: t, _ :: u, i + 1, v, h => ⟨h.1, lsle_set i v h.2⟩
theorem lsle_cut : ∀ {a c : List Value} (i : Nat), lsle a c → a[i]? = some jk → lsle a (c.set i jk)
  | [], [], _, _, _ => trivial
  | x :: t, y :: u, 0, h, hj => ⟨Or.inr (Option.some.inj hj), h.2⟩
  | x :: t, y :: u, i + 1, h, hj => ⟨h.1, lsle_cut (a := t) (c := u) i h.2 hj⟩
theorem lsle_none {a c : List Value} {i : Nat} (h : lsle a c) (hi : a[i]? = none) : c[i]? = none := by
  rw [List.getElem?_eq_none_iff] at hi ⊢
  rw [← lsle_len h]
  exact hi
theorem lsle_pre {a c : List Value} (i : Nat) (h : lsle a c) : lsle (pre a i) (pre c i) := by
  unfold pre
  split
  · exact h
  · rename_i n
    split
    · rename_i x hx
      rw [lsle_get h hx (by intro z; cases z)]
      exact lsle_set n jk h
    · rename_i x hx
      rw [lsle_get h hx (by intro z; cases z)]
      exact lsle_set n jk h
    · rename_i h1 h2
      cases ha : a[n]? with
      | none =>
        rw [lsle_none h ha]
        exact h
      | some v =>
        by_cases hv : v = jk
        · subst hv
          split
          · exact lsle_cut n h ha
          · exact lsle_cut n h ha
          · exact h
        · have hc := lsle_get h ha hv
          rw [hc]
          split
          · rename_i x e
            cases e
            exact absurd ha (h1 x)
          · rename_i x e
            cases e
            exact absurd ha (h2 x)
          · exact h
theorem lsle_st1 {a c : List Value} (i : Nat) (v : Value) (h : lsle a c) : lsle (st1 a i v) (st1 c i v) := lsle_set i v (lsle_pre i h)
theorem lsle_st2 {a c : List Value} (i : Nat) (v : Value) (h : lsle a c) : lsle (st2 a i v) (st2 c i v) := lsle_set (i + 1) jk (lsle_set i v (lsle_pre i h))
theorem sx_le {i : Instr} {a c a' st st' : List Value} (hs : sx i a st = some (a', st')) (h : lsle a c) : ∃ c', sx i c st = some (c', st') ∧ lsle a' c' := by
  have hI : ∀ n, ldI a st n = some (a', st') → ∃ c', ldI c st n = some (c', st') ∧ lsle a' c' := by
    intro n hs
    unfold ldI at hs ⊢
    split at hs
    · rename_i x hx
      rw [lsle_get h hx (by intro z; cases z)]
      cases hs
      exact ⟨c, rfl, h⟩
    · cases hs
  have hJ : ∀ n, ldL a st n = some (a', st') → ∃ c', ldL c st n = some (c', st') ∧ lsle a' c' := by
    intro n hs
    unfold ldL at hs ⊢
    split at hs
    · rename_i x hx
      rw [lsle_get h hx (by intro z; cases z)]
      cases hs
      exact ⟨c, rfl, h⟩
    · cases hs
  have hA : ∀ n, ldA a st n = some (a', st') → ∃ c', ldA c st n = some (c', st') ∧ lsle a' c' := by
    intro n hs
    unfold ldA at hs ⊢
    split at hs
    · rename_i x hx
      rw [lsle_get h hx (by intro z; cases z)]
      cases hs
      exact ⟨c, rfl, h⟩
    · rename_i q hx
      rw [lsle_get h hx (by intro z; cases z)]
      cases hs
      exact ⟨c, rfl, h⟩
    · cases hs
  have hsI : ∀ n, soI a st n = some (a', st') → ∃ c', soI c st n = some (c', st') ∧ lsle a' c' := by
    intro n hs
    unfold soI at hs ⊢
    split at hs
    · split at hs
      · rename_i hl
        cases hs
        exact ⟨_, by simp only [← lsle_len h, if_pos hl], lsle_st1 _ _ h⟩
      · cases hs
    · cases hs
  have hsL : ∀ n, soL a st n = some (a', st') → ∃ c', soL c st n = some (c', st') ∧ lsle a' c' := by
    intro n hs
    unfold soL at hs ⊢
    split at hs
    · split at hs
      · rename_i hl
        cases hs
        exact ⟨_, by simp only [← lsle_len h, if_pos hl], lsle_st2 _ _ h⟩
      · cases hs
    · cases hs
  have hsA : ∀ n, soA a st n = some (a', st') → ∃ c', soA c st n = some (c', st') ∧ lsle a' c' := by
    intro n hs
    unfold soA at hs ⊢
    split at hs
    · split at hs
      · rename_i hl
        cases hs
        exact ⟨_, by simp only [← lsle_len h, if_pos hl], lsle_st1 _ _ h⟩
      · cases hs
    · cases hs
  have h1 : ∀ f, o1I a st f = some (a', st') → ∃ c', o1I c st f = some (c', st') ∧ lsle a' c' := by
    intro f hs; unfold o1I at hs ⊢
    split at hs
    · cases hs; exact ⟨c, rfl, h⟩
    · cases hs
  have h2 : ∀ f, o2I a st f = some (a', st') → ∃ c', o2I c st f = some (c', st') ∧ lsle a' c' := by
    intro f hs; unfold o2I at hs ⊢
    split at hs
    · cases hs; exact ⟨c, rfl, h⟩
    · cases hs
  have h3 : ∀ f, o1L a st f = some (a', st') → ∃ c', o1L c st f = some (c', st') ∧ lsle a' c' := by
    intro f hs; unfold o1L at hs ⊢
    split at hs
    · cases hs; exact ⟨c, rfl, h⟩
    · cases hs
  have h4 : ∀ f, o2L a st f = some (a', st') → ∃ c', o2L c st f = some (c', st') ∧ lsle a' c' := by
    intro f hs; unfold o2L at hs ⊢
    split at hs
    · cases hs; exact ⟨c, rfl, h⟩
    · cases hs
  have h5 : ∀ f, oLI a st f = some (a', st') → ∃ c', oLI c st f = some (c', st') ∧ lsle a' c' := by
    intro f hs; unfold oLI at hs ⊢
    split at hs
    · cases hs; exact ⟨c, rfl, h⟩
    · cases hs
  unfold sx at hs ⊢
  split at hs
  all_goals first
    | exact hI _ hs
    | exact hJ _ hs
    | exact hA _ hs
    | exact hsI _ hs
    | exact hsL _ hs
    | exact hsA _ hs
    | exact h1 _ hs
    | exact h2 _ hs
    | exact h3 _ hs
    | exact h4 _ hs
    | exact h5 _ hs
    | (cases hs; exact ⟨c, rfl, h⟩)
    | (split at hs
       · rename_i x hx
         cases hs
         exact ⟨_, by simp only [lsle_get h hx (by intro z; cases z)], lsle_st1 _ _ h⟩
       · cases hs)
    | (split at hs <;> cases hs <;> exact ⟨c, rfl, h⟩)
    | cases hs
section
variable {L : Nat} {xs : Nat → Int32} {ac kd : Nat → Nat} {E : Nat → List Value → mm_M → Option Value → mm_M → Prop} {rt : Option FieldType}
theorem sx_none {i : Instr} {a c st : List Value} {M : mm_M} {r : Prop × List Value × mm_M} (hn : sx i a st = none) (hh : hx L xs i st M = some r) : sx i c st = none := by
  cases i <;> first | rfl | (have hh : none = some r := hh; cases hh)
theorem bl_le {K K' : Nat → List Value → List Value → mm_M → Prop} {Q : Option Value → mm_M → Prop} (hK : ∀ pc a c st M, K pc a st M → lsle a c → K' pc c st M) : ∀ (t : List Instr) (pc : Nat) (ls lc st : List Value) (M : mm_M), lsle ls lc → bl L xs ac kd E rt K Q t pc ls st M → bl L xs ac kd E rt K' Q t pc lc st M := by
  intro t
  induction t with
  | nil => intro pc ls lc st M hl h; exact hK _ _ _ _ _ h hl
  | cons i t ih =>
    intro pc ls lc st M hl h
    unfold bl at h ⊢
    split at h
    · exact hK _ _ _ _ _ h hl
    · split at h
      · exact ⟨fun q => hK _ _ _ _ _ (h.1 q) hl, fun q => ih _ _ _ _ _ hl (h.2 q)⟩
      · exact h.elim
    · split at h
      · exact ⟨fun q => hK _ _ _ _ _ (h.1 q) hl, fun q => ih _ _ _ _ _ hl (h.2 q)⟩
      · exact h.elim
    · split at h
      · refine ⟨fun q => hK _ _ _ _ _ (h.1 q) hl, fun q => ?_⟩
        obtain ⟨off, ho, h1⟩ := h.2 q
        exact ⟨off, ho, hK _ _ _ _ _ h1 hl⟩
      · exact h.elim
    · split at h
      · exact h
      · exact h.elim
    · split at h
      · exact h
      · exact h.elim
    · split at h
      · exact h
      · exact h.elim
    · split at h
      · split at h
        · exact ⟨h.1, ih _ _ _ _ _ hl h.2⟩
        · exact h.elim
      · split at h
        · exact ⟨h.1, ih _ _ _ _ _ hl h.2⟩
        · exact h.elim
      · obtain ⟨h0, r, M1, hE1, h2⟩ := h
        exact ⟨h0, r, M1, hE1, ih _ _ _ _ _ hl h2⟩
    · split at h
      · split at h
        · exact ⟨h.1, ih _ _ _ _ _ hl h.2⟩
        · exact h.elim
      · obtain ⟨g0, h0, r, M1, hE1, h2⟩ := h
        exact ⟨g0, h0, r, M1, hE1, ih _ _ _ _ _ hl h2⟩
    · obtain ⟨g0, h0, r, M1, hE1, h2⟩ := h
      exact ⟨g0, h0, r, M1, hE1, ih _ _ _ _ _ hl h2⟩
    · split at h
      · rename_i ls' st' hs
        obtain ⟨c', hs', hl'⟩ := sx_le hs hl
        simp only [hs']
        exact ih _ _ _ _ _ hl' h
      · rename_i hs
        split at h
        · rename_i hh
          simp only [sx_none (c := lc) hs hh, hh]
          exact ⟨h.1, ih _ _ _ _ _ hl h.2⟩
        · exact h.elim
theorem XN_le {bs : List (Nat × List Instr)} {Q : Option Value → mm_M → Prop} : ∀ (n pc : Nat) (ls lc st : List Value) (M : mm_M), lsle ls lc → XN L xs ac kd E rt bs Q n pc ls st M → XN L xs ac kd E rt bs Q n pc lc st M := by
  intro n
  induction n with
  | zero => intro pc ls lc st M _ h; exact h.elim
  | succ n ih =>
    intro pc ls lc st M hl h
    unfold XN at h ⊢
    split at h
    · rename_i bk hbk
      first | rw [hbk] | skip
      exact bl_le (fun pc a c st M q hq => ih pc a c st M hq q) bk pc ls lc st M hl h
    · exact h.elim
end
theorem XX_le {G : GG} {d : Nat} {rt : Option FieldType} {bs : List (Nat × List Instr)} {Q : Option Value → mm_M → Prop} {pc : Nat} (ls : List Value) {lc st : List Value} {M : mm_M} (hl : lsle ls lc) (h : XX G d rt bs Q pc ls st M) : XX G d rt bs Q pc lc st M := by
  obtain ⟨n, h⟩ := h
  exact ⟨n, XN_le n _ _ _ _ _ hl h⟩
/-- a switch, place by place -/
def swP (x : Int32) : Int → List Prop → Prop → Prop
  | _, [], D => D
  | k, A :: t, D => ifP (x = Int32.ofInt k) A (swP x (k + 1) t D)
theorem sw_ok {x : Int32} {D : Prop} {Kf : Int → Prop} : ∀ (os : List Int) (lo hi : Int) (n : Nat), (os.length : Int) = hi - lo + 1 → -2147483648 ≤ lo → hi ≤ 2147483647 → swP x lo (os.map Kf) D → ((x.toInt < lo ∨ hi < x.toInt) → D) ∧ (¬ (x.toInt < lo ∨ hi < x.toInt) → ∃ off, os[(x.toInt - lo).toNat]? = some off ∧ Kf off) ∨ x.toInt < lo := by
  intro os
  induction os with
  | nil =>
    intro lo hi n hl h1 h2 h
    left
    refine ⟨fun _ => h, fun q => ?_⟩
    simp at hl
    omega
  | cons o t ih =>
    intro lo hi n hl h1 h2 h
    rcases Int.lt_or_le x.toInt lo with hx | hx
    · exact Or.inr hx
    · left
      rw [List.map_cons, swP] at h
      have hlt : (t.length : Int) = hi - (lo + 1) + 1 := by rw [List.length_cons] at hl; omega
      have hlo : (Int32.ofInt lo).toInt = lo := by
        rw [Int32.toInt_ofInt]
        have e0 : (Int32.size : Nat) = 4294967296 := rfl
        rw [e0]
        apply Int.bmod_eq_of_le <;> omega
      by_cases e : x = Int32.ofInt lo
      · refine ⟨fun q => ?_, fun _ => ⟨o, ?_, h.1 e⟩⟩
        · rw [e, hlo] at q
          omega
        · rw [e, hlo, Int.sub_self]
          rfl
      · have hne : x.toInt ≠ lo := fun z => e (Int32.toInt_inj.mp (by rw [hlo]; exact z))
        rcases ih (lo + 1) hi n hlt (by omega) h2 (h.2 e) with ⟨g1, g2⟩ | g
        · refine ⟨fun q => g1 (by omega), fun q => ?_⟩
          obtain ⟨off, ho, hk⟩ := g2 (by omega)
          refine ⟨off, ?_, hk⟩
          rw [show (x.toInt - lo).toNat = (x.toInt - (lo + 1)).toNat + 1 by omega]
          exact ho
        · omega
theorem sw_low {x : Int32} {D : Prop} : ∀ (As : List Prop) (lo : Int), -2147483648 ≤ lo → lo + As.length ≤ 2147483648 → x.toInt < lo → swP x lo As D → D := by
  intro As
  induction As with
  | nil => intro lo _ _ _ h; exact h
  | cons A t ih =>
    intro lo h1 h2 hx h
    rw [swP] at h
    rw [List.length_cons] at h2
    have hlo : (Int32.ofInt lo).toInt = lo := by
      rw [Int32.toInt_ofInt]
      have e0 : (Int32.size : Nat) = 4294967296 := rfl
      rw [e0]
      apply Int.bmod_eq_of_le <;> omega
    have hne : ¬ x = Int32.ofInt lo := fun z => by rw [z, hlo] at hx; omega
    exact ih (lo + 1) (by omega) (by omega) (by omega) (h.2 hne)
theorem sw_in {x : Int32} {D : Prop} {Kf : Int → Prop} {lo hi : Int} {offs : Array Int} (hl : (offs.toList.length : Int) = hi - lo + 1) (h1 : -2147483648 ≤ lo) (h2 : hi ≤ 2147483647) (h : swP x lo (offs.toList.map Kf) D) : ifP (x.toInt < lo ∨ hi < x.toInt) D (∃ off, offs[(x.toInt - lo).toNat]? = some off ∧ Kf off) := by
  rcases sw_ok offs.toList lo hi 0 hl h1 h2 h with ⟨g1, g2⟩ | g
  · refine ⟨g1, fun q => ?_⟩
    obtain ⟨off, ho, hk⟩ := g2 q
    exact ⟨off, by rw [← Array.getElem?_toList]; exact ho, hk⟩
  · exact ⟨fun _ => sw_low _ lo h1 (by rw [List.length_map]; omega) g h, fun q => absurd (Or.inl g) q⟩
theorem XX_lw {G : GG} {d : Nat} {rt : Option FieldType} {bs : List (Nat × List Instr)} {Q : Option Value → mm_M → Prop} {pc : Nat} {ls lc st : List Value} {M : mm_M} (h : XX G d rt bs Q pc ls st M) (hl : lsle ls lc) : XX G d rt bs Q pc lc st M := XX_le ls hl h
end
section
theorem nb_ok {x : Int32} (h : x = 0 ∨ x = 1) : narrow .boolean (.int x) = .int x := by rcases h with rfl | rfl <;> rfl
/- java/util/Arrays.fill([II)V cuts [5] -/
theorem x284_5 {G : GG} {d : Nat} {Q : Option Value → mm_M → Prop} {l0 : Nat} {l1 : Int32} {l2 : Int32} {l3 : Int32} {M : mm_M} (h : ifP (l3 ≤ l2) (Q none M) ((mK M l0 = 14 ∧ vp_in l2 (mN M l0)) ∧ XX G d none P284 Q 5 [.ref l0, .int l1, .int (l2 + (1 : Int32)), .int l3] [] (sI M l0 l2.toNatClampNeg l1))) : XX G d none P284 Q 5 [.ref l0, .int l1, .int l2, .int l3] [] M := XX_at _ rfl ⟨fun q1001 => (XX_at _ rfl (h.1 q1001)), fun q1001 => ⟨(h.2 q1001).1, (h.2 q1001).2⟩⟩
theorem e284 {G : GG} {d : Nat} {P : mm_M → Prop} {l0 : Nat} {l1 : Int32} {M : mm_M} (h : (13 ≤ mK M l0 ∧ mK M l0 < 19) ∧ XX G d none P284 (QV P) 5 [.ref l0, .int l1, .int (0 : Int32), .int (Int32.ofNat (mN M l0))] [] M) : CV G (d + 1) 284 [.ref l0, .int l1] M P := CV_in (nL := 4) (rt := none) (bs := P284) rfl (Nat.le_of_ble_eq_true rfl) (XX_at _ rfl ⟨h.1, h.2⟩)
/- java/lang/Integer.bitCount(I)I cuts [] -/
def S285_0_24 : List Instr := [.iload_n 0, .iload_n 0, .iconst 4, .iushr, .iadd, .jsr_w 252645135, .iand, .istore_n 0, .iload_n 0, .iload_n 0, .bipush 8, .iushr, .iadd, .istore_n 0, .iload_n 0, .iload_n 0, .bipush 16, .iushr, .iadd, .istore_n 0, .iload_n 0, .bipush 63, .iand, .ireturn]
def S285_0_41 : List Instr := [.iload_n 0, .iload_n 0, .bipush 16, .iushr, .iadd, .istore_n 0, .iload_n 0, .bipush 63, .iand, .ireturn]
theorem b285_0_24 {G : GG} {d : Nat} {Q : Option Value → mm_M → Prop} {l0 : Int32} {M : mm_M} (h : BB G d (some .int) P285 Q S285_0_41 41 [.int (((l0 + ((l0.toUInt32 >>> ((4 : Int32).toUInt32 &&& Int32.toUInt32 31)).toInt32)) &&& (252645135 : Int32)) + ((((l0 + ((l0.toUInt32 >>> ((4 : Int32).toUInt32 &&& Int32.toUInt32 31)).toInt32)) &&& (252645135 : Int32)).toUInt32 >>> ((8 : Int32).toUInt32 &&& Int32.toUInt32 31)).toInt32))] [] M) : BB G d (some .int) P285 Q S285_0_24 24 [.int l0] [] M := ⟨trivial, h⟩
theorem b285_0_41 {G : GG} {d : Nat} {Q : Option Value → mm_M → Prop} {l0 : Int32} {M : mm_M} (h : Q (some (.int ((l0 + ((l0.toUInt32 >>> ((16 : Int32).toUInt32 &&& Int32.toUInt32 31)).toInt32)) &&& (63 : Int32)))) M) : BB G d (some .int) P285 Q S285_0_41 41 [.int l0] [] M := ⟨rfl, h⟩
theorem e285 {G : GG} {d : Nat} {P : Int32 → mm_M → Prop} {l0 : Int32} {M : mm_M} (h : BB G d (some .int) P285 (QI P) S285_0_24 24 [.int (((l0 - (((l0.toUInt32 >>> ((1 : Int32).toUInt32 &&& Int32.toUInt32 31)).toInt32) &&& (1431655765 : Int32))) &&& (858993459 : Int32)) + ((((l0 - (((l0.toUInt32 >>> ((1 : Int32).toUInt32 &&& Int32.toUInt32 31)).toInt32) &&& (1431655765 : Int32))).toUInt32 >>> ((2 : Int32).toUInt32 &&& Int32.toUInt32 31)).toInt32) &&& (858993459 : Int32)))] [] M) : CI G (d + 1) 285 [.int l0] M P := CI_in (nL := 1) (rt := (some .int)) (bs := P285) rfl (Nat.le_of_ble_eq_true rfl) (XX_at _ rfl ⟨trivial, ⟨trivial, ⟨trivial, h⟩⟩⟩)
/- java/lang/Math.max(II)I cuts [] -/
theorem e286 {G : GG} {d : Nat} {P : Int32 → mm_M → Prop} {l0 : Int32} {l1 : Int32} {M : mm_M} (h : ifP (l0 < l1) (P l1 M) (P l0 M)) : CI G (d + 1) 286 [.int l0, .int l1] M P := CI_in (nL := 2) (rt := (some .int)) (bs := P286) rfl (Nat.le_of_ble_eq_true rfl) (XX_at _ rfl ⟨fun q1001 => (XX_at _ rfl ⟨rfl, ⟨_, rfl, (h.1 q1001)⟩⟩), fun q1001 => (XX_at _ rfl ⟨rfl, ⟨_, rfl, (h.2 q1001)⟩⟩)⟩)
/- java/lang/Math.min(II)I cuts [] -/
theorem e287 {G : GG} {d : Nat} {P : Int32 → mm_M → Prop} {l0 : Int32} {l1 : Int32} {M : mm_M} (h : ifP (l1 < l0) (P l1 M) (P l0 M)) : CI G (d + 1) 287 [.int l0, .int l1] M P := CI_in (nL := 2) (rt := (some .int)) (bs := P287) rfl (Nat.le_of_ble_eq_true rfl) (XX_at _ rfl ⟨fun q1001 => (XX_at _ rfl ⟨rfl, ⟨_, rfl, (h.1 q1001)⟩⟩), fun q1001 => (XX_at _ rfl ⟨rfl, ⟨_, rfl, (h.2 q1001)⟩⟩)⟩)
/- java/lang/Math.abs(I)I cuts [] -/
theorem e288 {G : GG} {d : Nat} {P : Int32 → mm_M → Prop} {l0 : Int32} {M : mm_M} (h : ifP (0 ≤ l0) (P l0 M) (P (-l0) M)) : CI G (d + 1) 288 [.int l0] M P := CI_in (nL := 1) (rt := (some .int)) (bs := P288) rfl (Nat.le_of_ble_eq_true rfl) (XX_at _ rfl ⟨fun q1001 => (XX_at _ rfl ⟨rfl, ⟨_, rfl, (h.1 q1001)⟩⟩), fun q1001 => (XX_at _ rfl ⟨rfl, ⟨_, rfl, (h.2 q1001)⟩⟩)⟩)
end
section
/- ShoeOrchard$Felt.<init>()V cuts [] -/
def S0_0_20 : List Instr := [.return_]
theorem b0_0_20 {G : GG} {d : Nat} {Q : Option Value → mm_M → Prop} {l0 : Nat} {M : mm_M} (h : Q none M) : BB G d none P0 Q S0_0_20 20 [.ref l0] [] M := h
theorem e0 {G : GG} {d : Nat} {P : mm_M → Prop} {l0 : Nat} {M : mm_M} (h : l0 ≠ 0 ∧ (mK (nw M 14 8 8) l0 = 0 ∧ (mS M) ≠ 0) ∧ (mK (nw (sR (nw M 14 8 8) l0 1 (mS M)) 16 8 8) l0 = 0 ∧ (mS (sR (nw M 14 8 8) l0 1 (mS M))) ≠ 0) ∧ BB G d none P0 (QV P) S0_0_20 20 [.ref l0] [] (sR (nw (sR (nw M 14 8 8) l0 1 (mS M)) 16 8 8) l0 2 (mS (sR (nw M 14 8 8) l0 1 (mS M))))) : CV G (d + 1) 0 [.ref l0] M P := CV_in (nL := 1) (rt := none) (bs := P0) rfl (Nat.le_of_ble_eq_true rfl) (XX_at _ rfl ⟨⟨h.1, Nat.le_of_ble_eq_true rfl⟩, ⟨⟨by decide, by decide⟩, ⟨⟨h.2.1.1, rfl, h.2.1.2⟩, ⟨⟨by decide, by decide⟩, ⟨⟨h.2.2.1.1, rfl, h.2.2.1.2⟩, h.2.2.2⟩⟩⟩⟩⟩)
/- ShoeOrchard$Felt.clear()V cuts [] -/
theorem e1 {G : GG} {d : Nat} {P : mm_M → Prop} {l0 : Nat} {M : mm_M} (h : mK M l0 = 0 ∧ P (sI M l0 0 (0 : Int32))) : CV G (d + 1) 1 [.ref l0] M P := CV_in (nL := 1) (rt := none) (bs := P1) rfl (Nat.le_of_ble_eq_true rfl) (XX_at _ rfl ⟨h.1, ⟨rfl, h.2⟩⟩)
/- ShoeOrchard$Felt.add(IZ)Z cuts [] -/
def S2_11_31 : List Instr := [.aload_n 0, .dup, .getfield 0, .iconst 1, .iadd, .putfield 0, .iconst 1, .ireturn]
theorem b2_11_31 {G : GG} {d : Nat} {Q : Option Value → mm_M → Prop} {l0 : Nat} {l1 : Int32} {l2 : Int32} {M : mm_M} (h : mK M l0 = 0 ∧ mK M l0 = 0 ∧ Q (some (.int (1 : Int32))) (sI M l0 0 ((mI M l0 0) + (1 : Int32)))) : BB G d (some .boolean) P2 Q S2_11_31 31 [.ref l0, .int l1, .int l2] [] M := ⟨h.1, ⟨h.2.1, ⟨rfl, h.2.2⟩⟩⟩
theorem e2 {G : GG} {d : Nat} {P : Int32 → mm_M → Prop} {l0 : Nat} {l1 : Int32} {l2 : Int32} {M : mm_M} (h : mK M l0 = 0 ∧ ifP ((mI M l0 0) < (8 : Int32)) (mK M l0 = 0 ∧ mK M l0 = 0 ∧ (mK M (mR M l0 1) = 14 ∧ vp_in (mI M l0 0) (mN M (mR M l0 1))) ∧ mK (sI M (mR M l0 1) ((mI M l0 0).toNatClampNeg) l1) l0 = 0 ∧ mK (sI M (mR M l0 1) ((mI M l0 0).toNatClampNeg) l1) l0 = 0 ∧ (mK (sI M (mR M l0 1) ((mI M l0 0).toNatClampNeg) l1) (mR (sI M (mR M l0 1) ((mI M l0 0).toNatClampNeg) l1) l0 2) = 16 ∧ vp_in (mI (sI M (mR M l0 1) ((mI M l0 0).toNatClampNeg) l1) l0 0) (mN (sI M (mR M l0 1) ((mI M l0 0).toNatClampNeg) l1) (mR (sI M (mR M l0 1) ((mI M l0 0).toNatClampNeg) l1) l0 2))) ∧ BB G d (some .boolean) P2 (QI P) S2_11_31 31 [.ref l0, .int l1, .int l2] [] (sI (sI M (mR M l0 1) ((mI M l0 0).toNatClampNeg) l1) (mR (sI M (mR M l0 1) ((mI M l0 0).toNatClampNeg) l1) l0 2) ((mI (sI M (mR M l0 1) ((mI M l0 0).toNatClampNeg) l1) l0 0).toNatClampNeg) (vp_nar .boolean l2))) (P (0 : Int32) M)) : CI G (d + 1) 2 [.ref l0, .int l1, .int l2] M P := CI_in (nL := 3) (rt := (some .boolean)) (bs := P2) rfl (Nat.le_of_ble_eq_true rfl) (XX_at _ rfl ⟨h.1, ⟨fun q1001 => (XX_at _ rfl ⟨(h.2.1 q1001).1, ⟨(h.2.1 q1001).2.1, ⟨(h.2.1 q1001).2.2.1, ⟨(h.2.1 q1001).2.2.2.1, ⟨(h.2.1 q1001).2.2.2.2.1, ⟨(h.2.1 q1001).2.2.2.2.2.1, (h.2.1 q1001).2.2.2.2.2.2⟩⟩⟩⟩⟩⟩), fun q1001 => ⟨rfl, ⟨_, rfl, (h.2.2 q1001)⟩⟩⟩⟩)
/- ShoeOrchard$Felt.allows(I[II)Z cuts [3] -/
def S3_64_67 : List Instr := [.iload 5, .iconst (-1), .if_icmp .eq 17, .iload 6, .aload_n 0, .getfield 2, .iload 4, .baload, .if_icmp .eq 5, .iconst 0, .ireturn]
def S3_65_67 : List Instr := [.iload 5, .iconst (-1), .if_icmp .eq 17, .iload 6, .aload_n 0, .getfield 2, .iload 4, .baload, .if_icmp .eq 5, .iconst 0, .ireturn]
theorem b3_64_67 {G : GG} {d : Nat} {Q : Option Value → mm_M → Prop} {l0 : Nat} {l1 : Int32} {l2 : Nat} {l3 : Int32} {l4 : Int32} {l5 : Int32} {l6 : Int32} {M : mm_M} (h : ifP (l5 = (-1 : Int32)) (XX G d (some .boolean) P3 Q 3 [.ref l0, .int l1, .ref l2, .int l3, .int (l4 + (1 : Int32)), jk, jk] [] M) (mK M l0 = 0 ∧ (mK M (mR M l0 2) = 16 ∧ vp_in l4 (mN M (mR M l0 2))) ∧ ifP (l6 = (mI M (mR M l0 2) l4.toNatClampNeg)) (XX G d (some .boolean) P3 Q 3 [.ref l0, .int l1, .ref l2, .int l3, .int (l4 + (1 : Int32)), jk, jk] [] M) (Q (some (.int (0 : Int32))) M))) : BB G d (some .boolean) P3 Q S3_64_67 67 [.ref l0, .int l1, .ref l2, .int l3, .int l4, .int l5, .int l6] [] M := ⟨fun q1001 => (XX_at _ rfl (XX_lw (h.1 q1001) ⟨Or.inl rfl, Or.inl rfl, Or.inl rfl, Or.inl rfl, Or.inl rfl, Or.inr rfl, Or.inr rfl, trivial⟩)), fun q1001 => ⟨(h.2 q1001).1, ⟨(h.2 q1001).2.1, ⟨fun q1002 => (XX_at _ rfl (XX_lw ((h.2 q1001).2.2.1 q1002) ⟨Or.inl rfl, Or.inl rfl, Or.inl rfl, Or.inl rfl, Or.inl rfl, Or.inr rfl, Or.inr rfl, trivial⟩)), fun q1002 => ⟨rfl, ((h.2 q1001).2.2.2 q1002)⟩⟩⟩⟩⟩
theorem b3_65_67 {G : GG} {d : Nat} {Q : Option Value → mm_M → Prop} {l0 : Nat} {l1 : Int32} {l2 : Nat} {l3 : Int32} {l4 : Int32} {l5 : Int32} {l6 : Int32} {M : mm_M} (h : ifP (l5 = (-1 : Int32)) (XX G d (some .boolean) P3 Q 3 [.ref l0, .int l1, .ref l2, .int l3, .int (l4 + (1 : Int32)), jk, jk] [] M) (mK M l0 = 0 ∧ (mK M (mR M l0 2) = 16 ∧ vp_in l4 (mN M (mR M l0 2))) ∧ ifP (l6 = (mI M (mR M l0 2) l4.toNatClampNeg)) (XX G d (some .boolean) P3 Q 3 [.ref l0, .int l1, .ref l2, .int l3, .int (l4 + (1 : Int32)), jk, jk] [] M) (Q (some (.int (0 : Int32))) M))) : BB G d (some .boolean) P3 Q S3_65_67 67 [.ref l0, .int l1, .ref l2, .int l3, .int l4, .int l5, .int l6] [] M := ⟨fun q1001 => (XX_at _ rfl (XX_lw (h.1 q1001) ⟨Or.inl rfl, Or.inl rfl, Or.inl rfl, Or.inl rfl, Or.inl rfl, Or.inr rfl, Or.inr rfl, trivial⟩)), fun q1001 => ⟨(h.2 q1001).1, ⟨(h.2 q1001).2.1, ⟨fun q1002 => (XX_at _ rfl (XX_lw ((h.2 q1001).2.2.1 q1002) ⟨Or.inl rfl, Or.inl rfl, Or.inl rfl, Or.inl rfl, Or.inl rfl, Or.inr rfl, Or.inr rfl, trivial⟩)), fun q1002 => ⟨rfl, ((h.2 q1001).2.2.2 q1002)⟩⟩⟩⟩⟩
theorem x3_3 {G : GG} {d : Nat} {Q : Option Value → mm_M → Prop} {l0 : Nat} {l1 : Int32} {l2 : Nat} {l3 : Int32} {l4 : Int32} {M : mm_M} (h : mK M l0 = 0 ∧ ifP ((mI M l0 0) ≤ l4) (Q (some (.int (1 : Int32))) M) (mK M l0 = 0 ∧ (mK M (mR M l0 1) = 14 ∧ vp_in l4 (mN M (mR M l0 1))) ∧ ifP ((mI M (mR M l0 1) l4.toNatClampNeg) < 0) (CI G d 288 [.int ((-1 : Int32) - l1)] M (fun v1 N2 => ifP (l3 < v1) (BB G d (some .boolean) P3 Q S3_64_67 67 [.ref l0, .int l1, .ref l2, .int l3, .int l4, .int (-1 : Int32), .int (0 : Int32)] [] N2) (BB G d (some .boolean) P3 Q S3_65_67 67 [.ref l0, .int l1, .ref l2, .int l3, .int l4, .int (-1 : Int32), .int (1 : Int32)] [] N2))) (mK M l0 = 0 ∧ (mK M (mR M l0 1) = 14 ∧ vp_in l4 (mN M (mR M l0 1))) ∧ (13 ≤ mK M l2 ∧ mK M l2 < 19) ∧ ifP ((Int32.ofNat (mN M l2)) ≤ (mI M (mR M l0 1) l4.toNatClampNeg)) (CI G d 288 [.int ((-1 : Int32) - l1)] M (fun v3 N4 => ifP (l3 < v3) (BB G d (some .boolean) P3 Q S3_64_67 67 [.ref l0, .int l1, .ref l2, .int l3, .int l4, .int (-1 : Int32), .int (0 : Int32)] [] N4) (BB G d (some .boolean) P3 Q S3_65_67 67 [.ref l0, .int l1, .ref l2, .int l3, .int l4, .int (-1 : Int32), .int (1 : Int32)] [] N4))) (mK M l0 = 0 ∧ (mK M (mR M l0 1) = 14 ∧ vp_in l4 (mN M (mR M l0 1))) ∧ (mK M l2 = 14 ∧ vp_in (mI M (mR M l0 1) l4.toNatClampNeg) (mN M l2)) ∧ CI G d 288 [.int ((mI M l2 ((mI M (mR M l0 1) l4.toNatClampNeg).toNatClampNeg)) - l1)] M (fun v5 N6 => ifP (l3 < v5) (BB G d (some .boolean) P3 Q S3_64_67 67 [.ref l0, .int l1, .ref l2, .int l3, .int l4, .int (mI M l2 ((mI M (mR M l0 1) l4.toNatClampNeg).toNatClampNeg)), .int (0 : Int32)] [] N6) (BB G d (some .boolean) P3 Q S3_65_67 67 [.ref l0, .int l1, .ref l2, .int l3, .int l4, .int (mI M l2 ((mI M (mR M l0 1) l4.toNatClampNeg).toNatClampNeg)), .int (1 : Int32)] [] N6)))))) : XX G d (some .boolean) P3 Q 3 [.ref l0, .int l1, .ref l2, .int l3, .int l4, jk, jk] [] M := XX_at _ rfl ⟨h.1, ⟨fun q1001 => (XX_at _ rfl ⟨rfl, (h.2.1 q1001)⟩), fun q1001 => ⟨(h.2.2 q1001).1, ⟨(h.2.2 q1001).2.1, ⟨fun q1002 => (XX_at _ rfl ⟨⟨Nat.le_of_ble_eq_true rfl, Nat.le_of_ble_eq_true rfl⟩, (match ((h.2.2 q1001).2.2.1 q1002) with | ⟨v1, N2, hc1003, hk1004⟩ => ⟨some (.int v1), N2, hc1003, ⟨fun q1005 => (XX_at _ rfl (hk1004.1 q1005)), fun q1005 => (XX_at _ rfl (hk1004.2 q1005))⟩⟩)⟩), fun q1002 => ⟨((h.2.2 q1001).2.2.2 q1002).1, ⟨((h.2.2 q1001).2.2.2 q1002).2.1, ⟨((h.2.2 q1001).2.2.2 q1002).2.2.1, ⟨fun q1006 => (XX_at _ rfl ⟨⟨Nat.le_of_ble_eq_true rfl, Nat.le_of_ble_eq_true rfl⟩, (match (((h.2.2 q1001).2.2.2 q1002).2.2.2.1 q1006) with | ⟨v3, N4, hc1007, hk1008⟩ => ⟨some (.int v3), N4, hc1007, ⟨fun q1009 => (XX_at _ rfl (hk1008.1 q1009)), fun q1009 => (XX_at _ rfl (hk1008.2 q1009))⟩⟩)⟩), fun q1006 => ⟨(((h.2.2 q1001).2.2.2 q1002).2.2.2.2 q1006).1, ⟨(((h.2.2 q1001).2.2.2 q1002).2.2.2.2 q1006).2.1, ⟨(((h.2.2 q1001).2.2.2 q1002).2.2.2.2 q1006).2.2.1, (XX_at _ rfl ⟨⟨Nat.le_of_ble_eq_true rfl, Nat.le_of_ble_eq_true rfl⟩, (match (((h.2.2 q1001).2.2.2 q1002).2.2.2.2 q1006).2.2.2 with | ⟨v5, N6, hc1010, hk1011⟩ => ⟨some (.int v5), N6, hc1010, ⟨fun q1012 => (XX_at _ rfl (hk1011.1 q1012)), fun q1012 => (XX_at _ rfl (hk1011.2 q1012))⟩⟩)⟩)⟩⟩⟩⟩⟩⟩⟩⟩⟩⟩⟩⟩
theorem e3 {G : GG} {d : Nat} {P : Int32 → mm_M → Prop} {l0 : Nat} {l1 : Int32} {l2 : Nat} {l3 : Int32} {M : mm_M} (h : XX G d (some .boolean) P3 (QI P) 3 [.ref l0, .int l1, .ref l2, .int l3, .int (0 : Int32), jk, jk] [] M) : CI G (d + 1) 3 [.ref l0, .int l1, .ref l2, .int l3] M P := CI_in (nL := 7) (rt := (some .boolean)) (bs := P3) rfl (Nat.le_of_ble_eq_true rfl) (XX_at _ rfl h)
/- ShoeOrchard$Felt.copy(LShoeOrchard$Felt;)V cuts [17] -/
def S4_0_15 : List Instr := [.iconst 0, .istore_n 2]
def S4_17_35 : List Instr := [.iinc 2 1, .goto (-21)]
theorem b4_0_15 {G : GG} {d : Nat} {Q : Option Value → mm_M → Prop} {l0 : Nat} {l1 : Nat} {M : mm_M} (h : XX G d none P4 Q 17 [.ref l0, .ref l1, .int (0 : Int32)] [] M) : BB G d none P4 Q S4_0_15 15 [.ref l0, .ref l1, jk] [] M := h
theorem b4_17_35 {G : GG} {d : Nat} {Q : Option Value → mm_M → Prop} {l0 : Nat} {l1 : Nat} {l2 : Int32} {M : mm_M} (h : XX G d none P4 Q 17 [.ref l0, .ref l1, .int (l2 + (1 : Int32))] [] M) : BB G d none P4 Q S4_17_35 35 [.ref l0, .ref l1, .int l2] [] M := h
theorem x4_17 {G : GG} {d : Nat} {Q : Option Value → mm_M → Prop} {l0 : Nat} {l1 : Nat} {l2 : Int32} {M : mm_M} (h : ifP ((8 : Int32) ≤ l2) (mK M l1 = 0 ∧ mK M l0 = 0 ∧ Q none (sI M l0 0 (mI M l1 0))) (mK M l0 = 0 ∧ mK M l1 = 0 ∧ (mK M (mR M l1 2) = 16 ∧ vp_in l2 (mN M (mR M l1 2))) ∧ (mK M (mR M l0 2) = 16 ∧ vp_in l2 (mN M (mR M l0 2))) ∧ BB G d none P4 Q S4_17_35 35 [.ref l0, .ref l1, .int l2] [] (sI M (mR M l0 2) l2.toNatClampNeg (vp_nar .boolean (mI M (mR M l1 2) l2.toNatClampNeg))))) : XX G d none P4 Q 17 [.ref l0, .ref l1, .int l2] [] M := XX_at _ rfl ⟨fun q1001 => (XX_at _ rfl ⟨(h.1 q1001).1, ⟨(h.1 q1001).2.1, (h.1 q1001).2.2⟩⟩), fun q1001 => ⟨(h.2 q1001).1, ⟨(h.2 q1001).2.1, ⟨(h.2 q1001).2.2.1, ⟨(h.2 q1001).2.2.2.1, (h.2 q1001).2.2.2.2⟩⟩⟩⟩⟩
theorem e4 {G : GG} {d : Nat} {P : mm_M → Prop} {l0 : Nat} {l1 : Nat} {M : mm_M} (h : mK M l1 = 0 ∧ mK M l0 = 0 ∧ (mK M (mR M l1 1) = 14 ∧ mK M (mR M l0 1) = 14 ∧ 0 + 8 ≤ mN M (mR M l1 1) ∧ 0 + 8 ≤ mN M (mR M l0 1)) ∧ BB G d none P4 (QV P) S4_0_15 15 [.ref l0, .ref l1, jk] [] (rwI M (mR M l0 1) (va_cpy (mI M (mR M l1 1)) (mI M (mR M l0 1)) 0 0 8))) : CV G (d + 1) 4 [.ref l0, .ref l1] M P := CV_in (nL := 3) (rt := none) (bs := P4) rfl (Nat.le_of_ble_eq_true rfl) (XX_at _ rfl ⟨h.1, ⟨h.2.1, ⟨⟨h.2.2.1.1, h.2.2.1.2.1, by decide, by decide, by decide, h.2.2.1.2.2.1, h.2.2.1.2.2.2, Nat.le_of_ble_eq_true rfl⟩, h.2.2.2⟩⟩⟩)
end
section
/- ShoeOrchard$Formula.<init>()V cuts [] -/
def S5_0_21 : List Instr := [.return_]
theorem b5_0_21 {G : GG} {d : Nat} {Q : Option Value → mm_M → Prop} {l0 : Nat} {M : mm_M} (h : Q none M) : BB G d none P5 Q S5_0_21 21 [.ref l0] [] M := h
theorem e5 {G : GG} {d : Nat} {P : mm_M → Prop} {l0 : Nat} {M : mm_M} (h : l0 ≠ 0 ∧ (mK (nw M 14 1000 1000) l0 = 1 ∧ (mS M) ≠ 0) ∧ (mK (nw (sR (nw M 14 1000 1000) l0 0 (mS M)) 14 24 24) l0 = 1 ∧ (mS (sR (nw M 14 1000 1000) l0 0 (mS M))) ≠ 0) ∧ BB G d none P5 (QV P) S5_0_21 21 [.ref l0] [] (sR (nw (sR (nw M 14 1000 1000) l0 0 (mS M)) 14 24 24) l0 1 (mS (sR (nw M 14 1000 1000) l0 0 (mS M))))) : CV G (d + 1) 5 [.ref l0] M P := CV_in (nL := 1) (rt := none) (bs := P5) rfl (Nat.le_of_ble_eq_true rfl) (XX_at _ rfl ⟨⟨h.1, Nat.le_of_ble_eq_true rfl⟩, ⟨⟨by decide, by decide⟩, ⟨⟨h.2.1.1, rfl, h.2.1.2⟩, ⟨⟨by decide, by decide⟩, ⟨⟨h.2.2.1.1, rfl, h.2.2.1.2⟩, h.2.2.2⟩⟩⟩⟩⟩)
/- ShoeOrchard$Formula.clear()V cuts [] -/
theorem e6 {G : GG} {d : Nat} {P : mm_M → Prop} {l0 : Nat} {M : mm_M} (h : mK M l0 = 1 ∧ P (sI M l0 2 (0 : Int32))) : CV G (d + 1) 6 [.ref l0] M P := CV_in (nL := 1) (rt := none) (bs := P6) rfl (Nat.le_of_ble_eq_true rfl) (XX_at _ rfl ⟨h.1, ⟨rfl, h.2⟩⟩)
/- ShoeOrchard$Formula.add(I)V cuts [] -/
def S7_0_30 : List Instr := [.return_]
theorem b7_0_30 {G : GG} {d : Nat} {Q : Option Value → mm_M → Prop} {l0 : Nat} {l1 : Int32} {M : mm_M} (h : Q none M) : BB G d none P7 Q S7_0_30 30 [.ref l0, .int l1] [] M := h
theorem e7 {G : GG} {d : Nat} {P : mm_M → Prop} {l0 : Nat} {l1 : Int32} {M : mm_M} (h : mK M l0 = 1 ∧ ifP ((1000 : Int32) ≤ (mI M l0 2)) (P M) (mK M l0 = 1 ∧ mK M l0 = 1 ∧ (mK M (mR M l0 0) = 14 ∧ vp_in (mI M l0 2) (mN M (mR M l0 0))) ∧ mK (sI M (mR M l0 0) ((mI M l0 2).toNatClampNeg) l1) l0 = 1 ∧ mK (sI M (mR M l0 0) ((mI M l0 2).toNatClampNeg) l1) l0 = 1 ∧ BB G d none P7 (QV P) S7_0_30 30 [.ref l0, .int l1] [] (sI (sI M (mR M l0 0) ((mI M l0 2).toNatClampNeg) l1) l0 2 ((mI (sI M (mR M l0 0) ((mI M l0 2).toNatClampNeg) l1) l0 2) + (1 : Int32))))) : CV G (d + 1) 7 [.ref l0, .int l1] M P := CV_in (nL := 2) (rt := none) (bs := P7) rfl (Nat.le_of_ble_eq_true rfl) (XX_at _ rfl ⟨h.1, ⟨fun q1001 => (XX_at _ rfl ⟨rfl, (h.2.1 q1001)⟩), fun q1001 => ⟨(h.2.2 q1001).1, ⟨(h.2.2 q1001).2.1, ⟨(h.2.2 q1001).2.2.1, ⟨(h.2.2 q1001).2.2.2.1, ⟨(h.2.2 q1001).2.2.2.2.1, (h.2.2 q1001).2.2.2.2.2⟩⟩⟩⟩⟩⟩⟩)
/- ShoeOrchard$Formula.copy(LShoeOrchard$Formula;)V cuts [] -/
def S8_0_17 : List Instr := [.aload_n 0, .aload_n 1, .getfield 66, .putfield 66, .return_]
theorem b8_0_17 {G : GG} {d : Nat} {Q : Option Value → mm_M → Prop} {l0 : Nat} {l1 : Nat} {M : mm_M} (h : mK M l1 = 1 ∧ mK M l0 = 1 ∧ Q none (sI M l0 2 (mI M l1 2))) : BB G d none P8 Q S8_0_17 17 [.ref l0, .ref l1] [] M := ⟨h.1, ⟨h.2.1, h.2.2⟩⟩
theorem e8 {G : GG} {d : Nat} {P : mm_M → Prop} {l0 : Nat} {l1 : Nat} {M : mm_M} (h : mK M l1 = 1 ∧ mK M l0 = 1 ∧ mK M l1 = 1 ∧ (mK M (mR M l1 0) = 14 ∧ mK M (mR M l0 0) = 14 ∧ ¬ (mI M l1 2) < 0 ∧ 0 + (mI M l1 2).toNatClampNeg ≤ mN M (mR M l1 0) ∧ 0 + (mI M l1 2).toNatClampNeg ≤ mN M (mR M l0 0)) ∧ BB G d none P8 (QV P) S8_0_17 17 [.ref l0, .ref l1] [] (rwI M (mR M l0 0) (va_cpy (mI M (mR M l1 0)) (mI M (mR M l0 0)) 0 0 ((mI M l1 2).toNatClampNeg)))) : CV G (d + 1) 8 [.ref l0, .ref l1] M P := CV_in (nL := 2) (rt := none) (bs := P8) rfl (Nat.le_of_ble_eq_true rfl) (XX_at _ rfl ⟨h.1, ⟨h.2.1, ⟨h.2.2.1, ⟨⟨h.2.2.2.1.1, h.2.2.2.1.2.1, by decide, by decide, h.2.2.2.1.2.2.1, h.2.2.2.1.2.2.2.1, h.2.2.2.1.2.2.2.2, Nat.le_of_ble_eq_true rfl⟩, h.2.2.2.2⟩⟩⟩⟩)
/- ShoeOrchard$Formula.value(IIII)I cuts [13, 72, 127] -/
def S9_67_69 : List Instr := [.goto 98]
def S9_68_69 : List Instr := [.goto 98]
def S9_72_124 : List Instr := [.goto 43]
def S9_150_170 : List Instr := [.goto (-157)]
def S9_163_170 : List Instr := [.goto (-157)]
theorem b9_150_170 {G : GG} {d : Nat} {Q : Option Value → mm_M → Prop} {l0 : Nat} {l1 : Int32} {l2 : Int32} {l3 : Int32} {l4 : Int32} {l5 : Int32} {l6 : Int32} {l7 : Int32} {M : mm_M} (h : XX G d (some .int) P9 Q 13 [.ref l0, .int l1, .int l2, .int l3, .int l4, .int l5, .int l6, jk] [] M) : BB G d (some .int) P9 Q S9_150_170 170 [.ref l0, .int l1, .int l2, .int l3, .int l4, .int l5, .int l6, .int l7] [] M := (XX_lw h ⟨Or.inl rfl, Or.inl rfl, Or.inl rfl, Or.inl rfl, Or.inl rfl, Or.inl rfl, Or.inl rfl, Or.inr rfl, trivial⟩)
theorem b9_163_170 {G : GG} {d : Nat} {Q : Option Value → mm_M → Prop} {l0 : Nat} {l1 : Int32} {l2 : Int32} {l3 : Int32} {l4 : Int32} {l5 : Int32} {l6 : Int32} {l7 : Int32} {M : mm_M} (h : XX G d (some .int) P9 Q 13 [.ref l0, .int l1, .int l2, .int l3, .int l4, .int l5, .int l6, jk] [] M) : BB G d (some .int) P9 Q S9_163_170 170 [.ref l0, .int l1, .int l2, .int l3, .int l4, .int l5, .int l6, .int l7] [] M := (XX_lw h ⟨Or.inl rfl, Or.inl rfl, Or.inl rfl, Or.inl rfl, Or.inl rfl, Or.inl rfl, Or.inl rfl, Or.inr rfl, trivial⟩)
theorem b9_67_69 {G : GG} {d : Nat} {Q : Option Value → mm_M → Prop} {l0 : Nat} {l1 : Int32} {l2 : Int32} {l3 : Int32} {l4 : Int32} {l5 : Int32} {l6 : Int32} {l7 : Int32} {M : mm_M} (h : XX G d (some .int) P9 Q 13 [.ref l0, .int l1, .int l2, .int l3, .int l4, .int l5, .int (l6 + (1 : Int32)), jk] [] M) : BB G d (some .int) P9 Q S9_67_69 69 [.ref l0, .int l1, .int l2, .int l3, .int l4, .int l5, .int l6, .int l7] [] M := (XX_at _ rfl (XX_lw h ⟨Or.inl rfl, Or.inl rfl, Or.inl rfl, Or.inl rfl, Or.inl rfl, Or.inl rfl, Or.inl rfl, Or.inr rfl, trivial⟩))
theorem b9_68_69 {G : GG} {d : Nat} {Q : Option Value → mm_M → Prop} {l0 : Nat} {l1 : Int32} {l2 : Int32} {l3 : Int32} {l4 : Int32} {l5 : Int32} {l6 : Int32} {l7 : Int32} {M : mm_M} (h : XX G d (some .int) P9 Q 13 [.ref l0, .int l1, .int l2, .int l3, .int l4, .int l5, .int (l6 + (1 : Int32)), jk] [] M) : BB G d (some .int) P9 Q S9_68_69 69 [.ref l0, .int l1, .int l2, .int l3, .int l4, .int l5, .int l6, .int l7] [] M := (XX_at _ rfl (XX_lw h ⟨Or.inl rfl, Or.inl rfl, Or.inl rfl, Or.inl rfl, Or.inl rfl, Or.inl rfl, Or.inl rfl, Or.inr rfl, trivial⟩))
theorem b9_72_124 {G : GG} {d : Nat} {Q : Option Value → mm_M → Prop} {l0 : Nat} {l1 : Int32} {l2 : Int32} {l3 : Int32} {l4 : Int32} {l5 : Int32} {l6 : Int32} {l7 : Int32} {M : mm_M} (h : XX G d (some .int) P9 Q 13 [.ref l0, .int l1, .int l2, .int l3, .int l4, .int l5, .int (l6 + (1 : Int32)), jk] [] M) : BB G d (some .int) P9 Q S9_72_124 124 [.ref l0, .int l1, .int l2, .int l3, .int l4, .int l5, .int l6, .int l7] [] M := (XX_at _ rfl (XX_lw h ⟨Or.inl rfl, Or.inl rfl, Or.inl rfl, Or.inl rfl, Or.inl rfl, Or.inl rfl, Or.inl rfl, Or.inr rfl, trivial⟩))
theorem x9_127 {G : GG} {d : Nat} {Q : Option Value → mm_M → Prop} {l0 : Nat} {l1 : Int32} {l2 : Int32} {l3 : Int32} {l4 : Int32} {l5 : Int32} {l6 : Int32} {l7 : Int32} {M : mm_M} (h : ifP ((24 : Int32) ≤ l5) (XX G d (some .int) P9 Q 13 [.ref l0, .int l1, .int l2, .int l3, .int l4, .int l5, .int (l6 + (1 : Int32)), jk] [] M) (mK M l0 = 1 ∧ ifP (l7 < 0) (CI G d 11 [.int (((Int8.ofInt (-9)).toInt32) - l7), .int l1, .int l2, .int l3, .int l4] M (fun v1 N2 => (mK N2 (mR M l0 1) = 14 ∧ vp_in l5 (mN N2 (mR M l0 1))) ∧ BB G d (some .int) P9 Q S9_150_170 170 [.ref l0, .int l1, .int l2, .int l3, .int l4, .int (l5 + (1 : Int32)), .int (l6 + (1 : Int32)), .int l7] [] (sI N2 (mR M l0 1) l5.toNatClampNeg v1))) ((mK M (mR M l0 1) = 14 ∧ vp_in l5 (mN M (mR M l0 1))) ∧ BB G d (some .int) P9 Q S9_163_170 170 [.ref l0, .int l1, .int l2, .int l3, .int l4, .int (l5 + (1 : Int32)), .int (l6 + (1 : Int32)), .int l7] [] (sI M (mR M l0 1) l5.toNatClampNeg l7)))) : XX G d (some .int) P9 Q 127 [.ref l0, .int l1, .int l2, .int l3, .int l4, .int l5, .int l6, .int l7] [] M := XX_at _ rfl ⟨fun q1001 => (XX_at _ rfl (XX_lw (h.1 q1001) ⟨Or.inl rfl, Or.inl rfl, Or.inl rfl, Or.inl rfl, Or.inl rfl, Or.inl rfl, Or.inl rfl, Or.inr rfl, trivial⟩)), fun q1001 => ⟨(h.2 q1001).1, ⟨fun q1002 => (XX_at _ rfl ⟨⟨Nat.le_of_ble_eq_true rfl, Nat.le_of_ble_eq_true rfl⟩, (match ((h.2 q1001).2.1 q1002) with | ⟨v1, N2, hc1003, hk1004⟩ => ⟨some (.int v1), N2, hc1003, ⟨hk1004.1, hk1004.2⟩⟩)⟩), fun q1002 => (XX_at _ rfl ⟨((h.2 q1001).2.2 q1002).1, ((h.2 q1001).2.2 q1002).2⟩)⟩⟩⟩
theorem x9_13 {G : GG} {d : Nat} {Q : Option Value → mm_M → Prop} {l0 : Nat} {l1 : Int32} {l2 : Int32} {l3 : Int32} {l4 : Int32} {l5 : Int32} {l6 : Int32} {M : mm_M} (h : mK M l0 = 1 ∧ ifP ((mI M l0 2) ≤ l6) (mK M l0 = 1 ∧ (mK M (mR M l0 1) = 14 ∧ vp_in (0 : Int32) (mN M (mR M l0 1))) ∧ Q (some (.int (mI M (mR M l0 1) 0))) M) (mK M l0 = 1 ∧ (mK M (mR M l0 0) = 14 ∧ vp_in l6 (mN M (mR M l0 0))) ∧ ifP (¬ (mI M (mR M l0 0) l6.toNatClampNeg) = (-1 : Int32)) (XX G d (some .int) P9 Q 72 [.ref l0, .int l1, .int l2, .int l3, .int l4, .int l5, .int l6, .int (mI M (mR M l0 0) l6.toNatClampNeg)] [] M) (ifP (l5 < (1 : Int32)) (XX G d (some .int) P9 Q 72 [.ref l0, .int l1, .int l2, .int l3, .int l4, .int l5, .int l6, .int (mI M (mR M l0 0) l6.toNatClampNeg)] [] M) (mK M l0 = 1 ∧ mK M l0 = 1 ∧ (mK M (mR M l0 1) = 14 ∧ vp_in (l5 - (1 : Int32)) (mN M (mR M l0 1))) ∧ ifP (¬ (mI M (mR M l0 1) ((l5 - (1 : Int32)).toNatClampNeg)) = 0) ((mK M (mR M l0 1) = 14 ∧ vp_in (l5 - (1 : Int32)) (mN M (mR M l0 1))) ∧ BB G d (some .int) P9 Q S9_67_69 69 [.ref l0, .int l1, .int l2, .int l3, .int l4, .int l5, .int l6, .int (mI M (mR M l0 0) l6.toNatClampNeg)] [] (sI M (mR M l0 1) ((l5 - (1 : Int32)).toNatClampNeg) (0 : Int32))) ((mK M (mR M l0 1) = 14 ∧ vp_in (l5 - (1 : Int32)) (mN M (mR M l0 1))) ∧ BB G d (some .int) P9 Q S9_68_69 69 [.ref l0, .int l1, .int l2, .int l3, .int l4, .int l5, .int l6, .int (mI M (mR M l0 0) l6.toNatClampNeg)] [] (sI M (mR M l0 1) ((l5 - (1 : Int32)).toNatClampNeg) (1 : Int32))))))) : XX G d (some .int) P9 Q 13 [.ref l0, .int l1, .int l2, .int l3, .int l4, .int l5, .int l6, jk] [] M := XX_at _ rfl ⟨h.1, ⟨fun q1001 => (XX_at _ rfl ⟨(h.2.1 q1001).1, ⟨(h.2.1 q1001).2.1, ⟨rfl, (h.2.1 q1001).2.2⟩⟩⟩), fun q1001 => ⟨(h.2.2 q1001).1, ⟨(h.2.2 q1001).2.1, ⟨fun q1002 => ((h.2.2 q1001).2.2.1 q1002), fun q1002 => ⟨fun q1003 => (((h.2.2 q1001).2.2.2 q1002).1 q1003), fun q1003 => ⟨(((h.2.2 q1001).2.2.2 q1002).2 q1003).1, ⟨(((h.2.2 q1001).2.2.2 q1002).2 q1003).2.1, ⟨(((h.2.2 q1001).2.2.2 q1002).2 q1003).2.2.1, ⟨fun q1004 => (XX_at _ rfl ⟨((((h.2.2 q1001).2.2.2 q1002).2 q1003).2.2.2.1 q1004).1, ((((h.2.2 q1001).2.2.2 q1002).2 q1003).2.2.2.1 q1004).2⟩), fun q1004 => (XX_at _ rfl ⟨((((h.2.2 q1001).2.2.2 q1002).2 q1003).2.2.2.2 q1004).1, ((((h.2.2 q1001).2.2.2 q1002).2 q1003).2.2.2.2 q1004).2⟩)⟩⟩⟩⟩⟩⟩⟩⟩⟩⟩
theorem x9_72 {G : GG} {d : Nat} {Q : Option Value → mm_M → Prop} {l0 : Nat} {l1 : Int32} {l2 : Int32} {l3 : Int32} {l4 : Int32} {l5 : Int32} {l6 : Int32} {l7 : Int32} {M : mm_M} (h : ifP ((-1 : Int32) ≤ l7) (XX G d (some .int) P9 Q 127 [.ref l0, .int l1, .int l2, .int l3, .int l4, .int l5, .int l6, .int l7] [] M) (ifP (l7 ≤ ((Int8.ofInt (-9)).toInt32)) (XX G d (some .int) P9 Q 127 [.ref l0, .int l1, .int l2, .int l3, .int l4, .int l5, .int l6, .int l7] [] M) (ifP (l5 < (2 : Int32)) (XX G d (some .int) P9 Q 127 [.ref l0, .int l1, .int l2, .int l3, .int l4, .int l5, .int l6, .int l7] [] M) (mK M l0 = 1 ∧ mK M l0 = 1 ∧ (mK M (mR M l0 1) = 14 ∧ vp_in ((l5 + (-1 : Int32)) - (1 : Int32)) (mN M (mR M l0 1))) ∧ mK M l0 = 1 ∧ (mK M (mR M l0 1) = 14 ∧ vp_in (l5 + (-1 : Int32)) (mN M (mR M l0 1))) ∧ CI G d 10 [.int l7, .int (mI M (mR M l0 1) (((l5 + (-1 : Int32)) - (1 : Int32)).toNatClampNeg)), .int (mI M (mR M l0 1) ((l5 + (-1 : Int32)).toNatClampNeg))] M (fun v1 N2 => (mK N2 (mR M l0 1) = 14 ∧ vp_in ((l5 + (-1 : Int32)) - (1 : Int32)) (mN N2 (mR M l0 1))) ∧ BB G d (some .int) P9 Q S9_72_124 124 [.ref l0, .int l1, .int l2, .int l3, .int l4, .int (l5 + (-1 : Int32)), .int l6, .int l7] [] (sI N2 (mR M l0 1) (((l5 + (-1 : Int32)) - (1 : Int32)).toNatClampNeg) v1)))))) : XX G d (some .int) P9 Q 72 [.ref l0, .int l1, .int l2, .int l3, .int l4, .int l5, .int l6, .int l7] [] M := XX_at _ rfl ⟨fun q1001 => (h.1 q1001), fun q1001 => ⟨fun q1002 => ((h.2 q1001).1 q1002), fun q1002 => ⟨fun q1003 => (((h.2 q1001).2 q1002).1 q1003), fun q1003 => ⟨(((h.2 q1001).2 q1002).2 q1003).1, ⟨(((h.2 q1001).2 q1002).2 q1003).2.1, ⟨(((h.2 q1001).2 q1002).2 q1003).2.2.1, ⟨(((h.2 q1001).2 q1002).2 q1003).2.2.2.1, ⟨(((h.2 q1001).2 q1002).2 q1003).2.2.2.2.1, ⟨⟨Nat.le_of_ble_eq_true rfl, Nat.le_of_ble_eq_true rfl⟩, (match (((h.2 q1001).2 q1002).2 q1003).2.2.2.2.2 with | ⟨v1, N2, hc1004, hk1005⟩ => ⟨some (.int v1), N2, hc1004, ⟨hk1005.1, hk1005.2⟩⟩)⟩⟩⟩⟩⟩⟩⟩⟩⟩
theorem e9 {G : GG} {d : Nat} {P : Int32 → mm_M → Prop} {l0 : Nat} {l1 : Int32} {l2 : Int32} {l3 : Int32} {l4 : Int32} {M : mm_M} (h : mK M l0 = 1 ∧ (mK M (mR M l0 1) = 14 ∧ vp_in (0 : Int32) (mN M (mR M l0 1))) ∧ XX G d (some .int) P9 (QI P) 13 [.ref l0, .int l1, .int l2, .int l3, .int l4, .int (0 : Int32), .int (0 : Int32), jk] [] (sI M (mR M l0 1) 0 l1)) : CI G (d + 1) 9 [.ref l0, .int l1, .int l2, .int l3, .int l4] M P := CI_in (nL := 8) (rt := (some .int)) (bs := P9) rfl (Nat.le_of_ble_eq_true rfl) (XX_at _ rfl ⟨h.1, ⟨h.2.1, h.2.2⟩⟩)
/- ShoeOrchard$Formula.joined(III)I cuts [] -/
theorem e10 {G : GG} {d : Nat} {P : Int32 → mm_M → Prop} {l0 : Int32} {l1 : Int32} {l2 : Int32} {M : mm_M} (h : ifP (l0 = -7) (P (l1 - l2) M) (ifP (l0 = -6) (P (l1 + l2) M) (ifP (l0 = -5) (ifP (¬ l1 = l2) (P (0 : Int32) M) (P (1 : Int32) M)) (ifP (l0 = -4) (ifP (l2 ≤ l1) (P (0 : Int32) M) (P (1 : Int32) M)) (ifP (l0 = -3) (ifP (¬ l1 = 0) (P (1 : Int32) M) (ifP (l2 = 0) (P (0 : Int32) M) (P (1 : Int32) M))) (ifP (l0 = -2) (ifP (l1 = 0) (P (0 : Int32) M) (ifP (l2 = 0) (P (0 : Int32) M) (P (1 : Int32) M))) (P (l1 * l2) M))))))) : CI G (d + 1) 10 [.int l0, .int l1, .int l2] M P := CI_in (nL := 3) (rt := (some .int)) (bs := P10) rfl (Nat.le_of_ble_eq_true rfl) (XX_at _ rfl (sw_in rfl (by decide) (by decide) ⟨fun q1001 => (XX_at _ rfl ⟨rfl, ⟨_, rfl, (h.1 q1001)⟩⟩), fun q1001 => ⟨fun q1002 => (XX_at _ rfl ⟨rfl, ⟨_, rfl, ((h.2 q1001).1 q1002)⟩⟩), fun q1002 => ⟨fun q1003 => (XX_at _ rfl ⟨fun q1004 => (XX_at _ rfl ⟨rfl, ⟨_, rfl, ((((h.2 q1001).2 q1002).1 q1003).1 q1004)⟩⟩), fun q1004 => (XX_at _ rfl ⟨rfl, ⟨_, rfl, ((((h.2 q1001).2 q1002).1 q1003).2 q1004)⟩⟩)⟩), fun q1003 => ⟨fun q1005 => (XX_at _ rfl ⟨fun q1006 => (XX_at _ rfl ⟨rfl, ⟨_, rfl, (((((h.2 q1001).2 q1002).2 q1003).1 q1005).1 q1006)⟩⟩), fun q1006 => (XX_at _ rfl ⟨rfl, ⟨_, rfl, (((((h.2 q1001).2 q1002).2 q1003).1 q1005).2 q1006)⟩⟩)⟩), fun q1005 => ⟨fun q1007 => (XX_at _ rfl ⟨fun q1008 => (XX_at _ rfl (XX_at _ rfl ⟨rfl, ⟨_, rfl, ((((((h.2 q1001).2 q1002).2 q1003).2 q1005).1 q1007).1 q1008)⟩⟩)), fun q1008 => ⟨fun q1009 => (XX_at _ rfl ⟨rfl, ⟨_, rfl, (((((((h.2 q1001).2 q1002).2 q1003).2 q1005).1 q1007).2 q1008).1 q1009)⟩⟩), fun q1009 => (XX_at _ rfl ⟨rfl, ⟨_, rfl, (((((((h.2 q1001).2 q1002).2 q1003).2 q1005).1 q1007).2 q1008).2 q1009)⟩⟩)⟩⟩), fun q1007 => ⟨fun q1010 => (XX_at _ rfl ⟨fun q1011 => (XX_at _ rfl ⟨rfl, ⟨_, rfl, (((((((h.2 q1001).2 q1002).2 q1003).2 q1005).2 q1007).1 q1010).1 q1011)⟩⟩), fun q1011 => ⟨fun q1012 => (XX_at _ rfl ⟨rfl, ⟨_, rfl, ((((((((h.2 q1001).2 q1002).2 q1003).2 q1005).2 q1007).1 q1010).2 q1011).1 q1012)⟩⟩), fun q1012 => (XX_at _ rfl ⟨rfl, ⟨_, rfl, ((((((((h.2 q1001).2 q1002).2 q1003).2 q1005).2 q1007).1 q1010).2 q1011).2 q1012)⟩⟩)⟩⟩), fun q1010 => (XX_at _ rfl ⟨rfl, ⟨_, rfl, ((((((h.2 q1001).2 q1002).2 q1003).2 q1005).2 q1007).2 q1010)⟩⟩)⟩⟩⟩⟩⟩⟩))
/- ShoeOrchard$Formula.fact(IIIII)I cuts [] -/
theorem e11 {G : GG} {d : Nat} {P : Int32 → mm_M → Prop} {l0 : Int32} {l1 : Int32} {l2 : Int32} {l3 : Int32} {l4 : Int32} {M : mm_M} (h : ifP (l0 = 0) (P l1 M) (ifP (l0 = 1) (P l2 M) (ifP (l0 = 2) (P l3 M) (P l4 M)))) : CI G (d + 1) 11 [.int l0, .int l1, .int l2, .int l3, .int l4] M P := CI_in (nL := 5) (rt := (some .int)) (bs := P11) rfl (Nat.le_of_ble_eq_true rfl) (XX_at _ rfl (sw_in rfl (by decide) (by decide) ⟨fun q1001 => (XX_at _ rfl ⟨rfl, ⟨_, rfl, (h.1 q1001)⟩⟩), fun q1001 => ⟨fun q1002 => (XX_at _ rfl ⟨rfl, ⟨_, rfl, ((h.2 q1001).1 q1002)⟩⟩), fun q1002 => ⟨fun q1003 => (XX_at _ rfl ⟨rfl, ⟨_, rfl, (((h.2 q1001).2 q1002).1 q1003)⟩⟩), fun q1003 => (XX_at _ rfl ⟨rfl, ⟨_, rfl, (((h.2 q1001).2 q1002).2 q1003)⟩⟩)⟩⟩⟩))
end
section
/- ShoeOrchard$Lines.<init>()V cuts [] -/
def S12_0_20 : List Instr := [.aload_n 0, .bipush 40, .newarray .int, .putfield 131, .return_]
theorem b12_0_20 {G : GG} {d : Nat} {Q : Option Value → mm_M → Prop} {l0 : Nat} {M : mm_M} (h : (mK (nw M 14 40 40) l0 = 2 ∧ (mS M) ≠ 0) ∧ Q none (sR (nw M 14 40 40) l0 3 (mS M))) : BB G d none P12 Q S12_0_20 20 [.ref l0] [] M := ⟨⟨by decide, by decide⟩, ⟨⟨h.1.1, rfl, h.1.2⟩, h.2⟩⟩
theorem e12 {G : GG} {d : Nat} {P : mm_M → Prop} {l0 : Nat} {M : mm_M} (h : l0 ≠ 0 ∧ (mK (nw M 14 40 40) l0 = 2 ∧ (mS M) ≠ 0) ∧ (mK (nw (sR (nw M 14 40 40) l0 1 (mS M)) 14 40 40) l0 = 2 ∧ (mS (sR (nw M 14 40 40) l0 1 (mS M))) ≠ 0) ∧ BB G d none P12 (QV P) S12_0_20 20 [.ref l0] [] (sR (nw (sR (nw M 14 40 40) l0 1 (mS M)) 14 40 40) l0 2 (mS (sR (nw M 14 40 40) l0 1 (mS M))))) : CV G (d + 1) 12 [.ref l0] M P := CV_in (nL := 1) (rt := none) (bs := P12) rfl (Nat.le_of_ble_eq_true rfl) (XX_at _ rfl ⟨⟨h.1, Nat.le_of_ble_eq_true rfl⟩, ⟨⟨by decide, by decide⟩, ⟨⟨h.2.1.1, rfl, h.2.1.2⟩, ⟨⟨by decide, by decide⟩, ⟨⟨h.2.2.1.1, rfl, h.2.2.1.2⟩, h.2.2.2⟩⟩⟩⟩⟩)
/- ShoeOrchard$Lines.clear()V cuts [] -/
theorem e13 {G : GG} {d : Nat} {P : mm_M → Prop} {l0 : Nat} {M : mm_M} (h : mK M l0 = 2 ∧ P (sI M l0 0 (0 : Int32))) : CV G (d + 1) 13 [.ref l0] M P := CV_in (nL := 1) (rt := none) (bs := P13) rfl (Nat.le_of_ble_eq_true rfl) (XX_at _ rfl ⟨h.1, ⟨rfl, h.2⟩⟩)
/- ShoeOrchard$Lines.add(III)V cuts [] -/
def S14_0_29 : List Instr := [.aload_n 0, .getfield 131, .aload_n 0, .getfield 128, .iload_n 3, .iastore, .aload_n 0, .dup, .getfield 128, .iconst 1, .iadd, .putfield 128, .return_]
def S14_0_49 : List Instr := [.return_]
theorem b14_0_29 {G : GG} {d : Nat} {Q : Option Value → mm_M → Prop} {l0 : Nat} {l1 : Int32} {l2 : Int32} {l3 : Int32} {M : mm_M} (h : mK M l0 = 2 ∧ mK M l0 = 2 ∧ (mK M (mR M l0 3) = 14 ∧ vp_in (mI M l0 0) (mN M (mR M l0 3))) ∧ mK (sI M (mR M l0 3) ((mI M l0 0).toNatClampNeg) l3) l0 = 2 ∧ mK (sI M (mR M l0 3) ((mI M l0 0).toNatClampNeg) l3) l0 = 2 ∧ BB G d none P14 Q S14_0_49 49 [.ref l0, .int l1, .int l2, .int l3] [] (sI (sI M (mR M l0 3) ((mI M l0 0).toNatClampNeg) l3) l0 0 ((mI (sI M (mR M l0 3) ((mI M l0 0).toNatClampNeg) l3) l0 0) + (1 : Int32)))) : BB G d none P14 Q S14_0_29 29 [.ref l0, .int l1, .int l2, .int l3] [] M := ⟨h.1, ⟨h.2.1, ⟨h.2.2.1, ⟨h.2.2.2.1, ⟨h.2.2.2.2.1, h.2.2.2.2.2⟩⟩⟩⟩⟩
theorem b14_0_49 {G : GG} {d : Nat} {Q : Option Value → mm_M → Prop} {l0 : Nat} {l1 : Int32} {l2 : Int32} {l3 : Int32} {M : mm_M} (h : Q none M) : BB G d none P14 Q S14_0_49 49 [.ref l0, .int l1, .int l2, .int l3] [] M := h
theorem e14 {G : GG} {d : Nat} {P : mm_M → Prop} {l0 : Nat} {l1 : Int32} {l2 : Int32} {l3 : Int32} {M : mm_M} (h : mK M l0 = 2 ∧ ifP ((40 : Int32) ≤ (mI M l0 0)) (P M) (mK M l0 = 2 ∧ mK M l0 = 2 ∧ (mK M (mR M l0 1) = 14 ∧ vp_in (mI M l0 0) (mN M (mR M l0 1))) ∧ mK (sI M (mR M l0 1) ((mI M l0 0).toNatClampNeg) l1) l0 = 2 ∧ mK (sI M (mR M l0 1) ((mI M l0 0).toNatClampNeg) l1) l0 = 2 ∧ (mK (sI M (mR M l0 1) ((mI M l0 0).toNatClampNeg) l1) (mR (sI M (mR M l0 1) ((mI M l0 0).toNatClampNeg) l1) l0 2) = 14 ∧ vp_in (mI (sI M (mR M l0 1) ((mI M l0 0).toNatClampNeg) l1) l0 0) (mN (sI M (mR M l0 1) ((mI M l0 0).toNatClampNeg) l1) (mR (sI M (mR M l0 1) ((mI M l0 0).toNatClampNeg) l1) l0 2))) ∧ BB G d none P14 (QV P) S14_0_29 29 [.ref l0, .int l1, .int l2, .int l3] [] (sI (sI M (mR M l0 1) ((mI M l0 0).toNatClampNeg) l1) (mR (sI M (mR M l0 1) ((mI M l0 0).toNatClampNeg) l1) l0 2) ((mI (sI M (mR M l0 1) ((mI M l0 0).toNatClampNeg) l1) l0 0).toNatClampNeg) l2))) : CV G (d + 1) 14 [.ref l0, .int l1, .int l2, .int l3] M P := CV_in (nL := 4) (rt := none) (bs := P14) rfl (Nat.le_of_ble_eq_true rfl) (XX_at _ rfl ⟨h.1, ⟨fun q1001 => (XX_at _ rfl ⟨rfl, (h.2.1 q1001)⟩), fun q1001 => ⟨(h.2.2 q1001).1, ⟨(h.2.2 q1001).2.1, ⟨(h.2.2 q1001).2.2.1, ⟨(h.2.2 q1001).2.2.2.1, ⟨(h.2.2 q1001).2.2.2.2.1, ⟨(h.2.2 q1001).2.2.2.2.2.1, (h.2.2 q1001).2.2.2.2.2.2⟩⟩⟩⟩⟩⟩⟩⟩)
/- ShoeOrchard$Lines.copy(LShoeOrchard$Lines;)V cuts [] -/
def S15_0_15 : List Instr := [.aload_n 1, .getfield 130, .iconst 0, .aload_n 0, .getfield 130, .iconst 0, .bipush 40, .invokestatic 900, .aload_n 1, .getfield 131, .iconst 0, .aload_n 0, .getfield 131, .iconst 0, .bipush 40, .invokestatic 900, .aload_n 0, .aload_n 1, .getfield 128, .putfield 128, .return_]
def S15_0_30 : List Instr := [.aload_n 1, .getfield 131, .iconst 0, .aload_n 0, .getfield 131, .iconst 0, .bipush 40, .invokestatic 900, .aload_n 0, .aload_n 1, .getfield 128, .putfield 128, .return_]
def S15_0_45 : List Instr := [.aload_n 0, .aload_n 1, .getfield 128, .putfield 128, .return_]
theorem b15_0_15 {G : GG} {d : Nat} {Q : Option Value → mm_M → Prop} {l0 : Nat} {l1 : Nat} {M : mm_M} (h : mK M l1 = 2 ∧ mK M l0 = 2 ∧ (mK M (mR M l1 2) = 14 ∧ mK M (mR M l0 2) = 14 ∧ 0 + 40 ≤ mN M (mR M l1 2) ∧ 0 + 40 ≤ mN M (mR M l0 2)) ∧ BB G d none P15 Q S15_0_30 30 [.ref l0, .ref l1] [] (rwI M (mR M l0 2) (va_cpy (mI M (mR M l1 2)) (mI M (mR M l0 2)) 0 0 40))) : BB G d none P15 Q S15_0_15 15 [.ref l0, .ref l1] [] M := ⟨h.1, ⟨h.2.1, ⟨⟨h.2.2.1.1, h.2.2.1.2.1, by decide, by decide, by decide, h.2.2.1.2.2.1, h.2.2.1.2.2.2, Nat.le_of_ble_eq_true rfl⟩, h.2.2.2⟩⟩⟩
theorem b15_0_30 {G : GG} {d : Nat} {Q : Option Value → mm_M → Prop} {l0 : Nat} {l1 : Nat} {M : mm_M} (h : mK M l1 = 2 ∧ mK M l0 = 2 ∧ (mK M (mR M l1 3) = 14 ∧ mK M (mR M l0 3) = 14 ∧ 0 + 40 ≤ mN M (mR M l1 3) ∧ 0 + 40 ≤ mN M (mR M l0 3)) ∧ BB G d none P15 Q S15_0_45 45 [.ref l0, .ref l1] [] (rwI M (mR M l0 3) (va_cpy (mI M (mR M l1 3)) (mI M (mR M l0 3)) 0 0 40))) : BB G d none P15 Q S15_0_30 30 [.ref l0, .ref l1] [] M := ⟨h.1, ⟨h.2.1, ⟨⟨h.2.2.1.1, h.2.2.1.2.1, by decide, by decide, by decide, h.2.2.1.2.2.1, h.2.2.1.2.2.2, Nat.le_of_ble_eq_true rfl⟩, h.2.2.2⟩⟩⟩
theorem b15_0_45 {G : GG} {d : Nat} {Q : Option Value → mm_M → Prop} {l0 : Nat} {l1 : Nat} {M : mm_M} (h : mK M l1 = 2 ∧ mK M l0 = 2 ∧ Q none (sI M l0 0 (mI M l1 0))) : BB G d none P15 Q S15_0_45 45 [.ref l0, .ref l1] [] M := ⟨h.1, ⟨h.2.1, h.2.2⟩⟩
theorem e15 {G : GG} {d : Nat} {P : mm_M → Prop} {l0 : Nat} {l1 : Nat} {M : mm_M} (h : mK M l1 = 2 ∧ mK M l0 = 2 ∧ (mK M (mR M l1 1) = 14 ∧ mK M (mR M l0 1) = 14 ∧ 0 + 40 ≤ mN M (mR M l1 1) ∧ 0 + 40 ≤ mN M (mR M l0 1)) ∧ BB G d none P15 (QV P) S15_0_15 15 [.ref l0, .ref l1] [] (rwI M (mR M l0 1) (va_cpy (mI M (mR M l1 1)) (mI M (mR M l0 1)) 0 0 40))) : CV G (d + 1) 15 [.ref l0, .ref l1] M P := CV_in (nL := 2) (rt := none) (bs := P15) rfl (Nat.le_of_ble_eq_true rfl) (XX_at _ rfl ⟨h.1, ⟨h.2.1, ⟨⟨h.2.2.1.1, h.2.2.1.2.1, by decide, by decide, by decide, h.2.2.1.2.2.1, h.2.2.1.2.2.2, Nat.le_of_ble_eq_true rfl⟩, h.2.2.2⟩⟩⟩)
/- ShoeOrchard$Lines.carryOut(ILShoeOrchard$State;)I cuts [] -/
def S16_14_29 : List Instr := [.aload_n 0, .getfield 129, .iload_n 1, .iaload, .tableswitch 94 0 3 #[29, 57, 78, 87]]
theorem b16_14_29 {G : GG} {d : Nat} {Q : Option Value → mm_M → Prop} {l0 : Nat} {l1 : Int32} {l2 : Nat} {l3 : Int32} {l4 : Int32} {M : mm_M} (h : mK M l0 = 2 ∧ (mK M (mR M l0 1) = 14 ∧ vp_in l1 (mN M (mR M l0 1))) ∧ ifP ((mI M (mR M l0 1) l1.toNatClampNeg) = 0) (mK M l2 = 9 ∧ CI G d 74 [.ref l2, .int l3, .int l4] M (fun v1 N2 => ifP (¬ v1 = 0) (mK N2 l2 = 9 ∧ CI G d 76 [.ref l2, .int l3, .int l4] N2 (fun v3 N4 => ifP (v3 = 0) (Q (some (.int (0 : Int32))) N4) (Q (some (.int (1 : Int32))) N4))) (Q (some (.int (-1 : Int32))) N2))) (ifP ((mI M (mR M l0 1) l1.toNatClampNeg) = 1) (mK M l2 = 9 ∧ CI G d 78 [.ref l2, .int l3, .int l4] M (fun v5 N6 => ifP (¬ v5 = 0) (mK N6 l2 = 9 ∧ CV G d 79 [.ref l2, .int l3, .int l4] N6 (fun N8 => Q (some (.int (1 : Int32))) N8)) (Q (some (.int (-1 : Int32))) N6))) (ifP ((mI M (mR M l0 1) l1.toNatClampNeg) = 2) (mK M l2 = 9 ∧ CV G d 80 [.ref l2, .int l3, .int l4] M (fun N10 => Q (some (.int (1 : Int32))) N10)) (ifP ((mI M (mR M l0 1) l1.toNatClampNeg) = 3) (mK M l2 = 9 ∧ CV G d 81 [.ref l2, .int l3] M (fun N12 => Q (some (.int (1 : Int32))) N12)) (mK M l2 = 9 ∧ CV G d 82 [.ref l2] M (fun N14 => Q (some (.int (1 : Int32))) N14)))))) : BB G d (some .int) P16 Q S16_14_29 29 [.ref l0, .int l1, .ref l2, .int l3, .int l4] [] M := ⟨h.1, ⟨h.2.1, (sw_in rfl (by decide) (by decide) ⟨fun q1001 => (XX_at _ rfl ⟨⟨(h.2.2.1 q1001).1, Nat.le_of_ble_eq_true rfl⟩, ⟨Nat.le_of_ble_eq_true rfl, Nat.le_of_ble_eq_true rfl⟩, (match (h.2.2.1 q1001).2 with | ⟨v1, N2, hc1002, hk1003⟩ => ⟨some (.int v1), N2, hc1002, ⟨fun q1004 => (XX_at _ rfl ⟨⟨(hk1003.1 q1004).1, Nat.le_of_ble_eq_true rfl⟩, ⟨Nat.le_of_ble_eq_true rfl, Nat.le_of_ble_eq_true rfl⟩, (match (hk1003.1 q1004).2 with | ⟨v3, N4, hc1005, hk1006⟩ => ⟨some (.int v3), N4, hc1005, ⟨fun q1007 => (XX_at _ rfl ⟨rfl, (hk1006.1 q1007)⟩), fun q1007 => (XX_at _ rfl ⟨rfl, (hk1006.2 q1007)⟩)⟩⟩)⟩), fun q1004 => ⟨rfl, (hk1003.2 q1004)⟩⟩⟩)⟩), fun q1001 => ⟨fun q1008 => (XX_at _ rfl ⟨⟨((h.2.2.2 q1001).1 q1008).1, Nat.le_of_ble_eq_true rfl⟩, ⟨Nat.le_of_ble_eq_true rfl, Nat.le_of_ble_eq_true rfl⟩, (match ((h.2.2.2 q1001).1 q1008).2 with | ⟨v5, N6, hc1009, hk1010⟩ => ⟨some (.int v5), N6, hc1009, ⟨fun q1011 => (XX_at _ rfl ⟨⟨(hk1010.1 q1011).1, Nat.le_of_ble_eq_true rfl⟩, ⟨Nat.le_of_ble_eq_true rfl, Nat.le_of_ble_eq_true rfl⟩, (match (hk1010.1 q1011).2 with | ⟨N8, hc1012, hk1013⟩ => ⟨none, N8, hc1012, ⟨rfl, hk1013⟩⟩)⟩), fun q1011 => ⟨rfl, (hk1010.2 q1011)⟩⟩⟩)⟩), fun q1008 => ⟨fun q1014 => (XX_at _ rfl ⟨⟨(((h.2.2.2 q1001).2 q1008).1 q1014).1, Nat.le_of_ble_eq_true rfl⟩, ⟨Nat.le_of_ble_eq_true rfl, Nat.le_of_ble_eq_true rfl⟩, (match (((h.2.2.2 q1001).2 q1008).1 q1014).2 with | ⟨N10, hc1015, hk1016⟩ => ⟨none, N10, hc1015, ⟨rfl, hk1016⟩⟩)⟩), fun q1014 => ⟨fun q1017 => (XX_at _ rfl ⟨⟨((((h.2.2.2 q1001).2 q1008).2 q1014).1 q1017).1, Nat.le_of_ble_eq_true rfl⟩, ⟨Nat.le_of_ble_eq_true rfl, Nat.le_of_ble_eq_true rfl⟩, (match ((((h.2.2.2 q1001).2 q1008).2 q1014).1 q1017).2 with | ⟨N12, hc1018, hk1019⟩ => ⟨none, N12, hc1018, ⟨rfl, hk1019⟩⟩)⟩), fun q1017 => (XX_at _ rfl ⟨⟨((((h.2.2.2 q1001).2 q1008).2 q1014).2 q1017).1, Nat.le_of_ble_eq_true rfl⟩, ⟨Nat.le_of_ble_eq_true rfl, Nat.le_of_ble_eq_true rfl⟩, (match ((((h.2.2.2 q1001).2 q1008).2 q1014).2 q1017).2 with | ⟨N14, hc1020, hk1021⟩ => ⟨none, N14, hc1020, ⟨rfl, hk1021⟩⟩)⟩)⟩⟩⟩⟩)⟩⟩
theorem e16 {G : GG} {d : Nat} {P : Int32 → mm_M → Prop} {l0 : Nat} {l1 : Int32} {l2 : Nat} {M : mm_M} (h : ifP (l1 < 0) (P (-1 : Int32) M) (mK M l0 = 2 ∧ ifP (l1 < (mI M l0 0)) (mK M l0 = 2 ∧ (mK M (mR M l0 2) = 14 ∧ vp_in l1 (mN M (mR M l0 2))) ∧ mK M l0 = 2 ∧ (mK M (mR M l0 3) = 14 ∧ vp_in l1 (mN M (mR M l0 3))) ∧ BB G d (some .int) P16 (QI P) S16_14_29 29 [.ref l0, .int l1, .ref l2, .int (mI M (mR M l0 2) l1.toNatClampNeg), .int (mI M (mR M l0 3) l1.toNatClampNeg)] [] M) (P (-1 : Int32) M))) : CI G (d + 1) 16 [.ref l0, .int l1, .ref l2] M P := CI_in (nL := 5) (rt := (some .int)) (bs := P16) rfl (Nat.le_of_ble_eq_true rfl) (XX_at _ rfl ⟨fun q1001 => (XX_at _ rfl ⟨rfl, ⟨_, rfl, (h.1 q1001)⟩⟩), fun q1001 => ⟨(h.2 q1001).1, ⟨fun q1002 => (XX_at _ rfl ⟨((h.2 q1001).2.1 q1002).1, ⟨((h.2 q1001).2.1 q1002).2.1, ⟨((h.2 q1001).2.1 q1002).2.2.1, ⟨((h.2 q1001).2.1 q1002).2.2.2.1, ((h.2 q1001).2.1 q1002).2.2.2.2⟩⟩⟩⟩), fun q1002 => ⟨rfl, ⟨_, rfl, ((h.2 q1001).2.2 q1002)⟩⟩⟩⟩⟩)
end
section
/- ShoeOrchard$Matching.<init>()V cuts [] -/
def S17_0_20 : List Instr := [.aload_n 0, .bipush 6, .newarray .int, .putfield 195, .aload_n 0, .sipush 448, .newarray .int, .putfield 198, .return_]
def S17_0_37 : List Instr := [.return_]
theorem b17_0_20 {G : GG} {d : Nat} {Q : Option Value → mm_M → Prop} {l0 : Nat} {M : mm_M} (h : (mK (nw M 14 6 6) l0 = 3 ∧ (mS M) ≠ 0) ∧ (mK (nw (sR (nw M 14 6 6) l0 3 (mS M)) 14 448 448) l0 = 3 ∧ (mS (sR (nw M 14 6 6) l0 3 (mS M))) ≠ 0) ∧ BB G d none P17 Q S17_0_37 37 [.ref l0] [] (sR (nw (sR (nw M 14 6 6) l0 3 (mS M)) 14 448 448) l0 6 (mS (sR (nw M 14 6 6) l0 3 (mS M))))) : BB G d none P17 Q S17_0_20 20 [.ref l0] [] M := ⟨⟨by decide, by decide⟩, ⟨⟨h.1.1, rfl, h.1.2⟩, ⟨⟨by decide, by decide⟩, ⟨⟨h.2.1.1, rfl, h.2.1.2⟩, h.2.2⟩⟩⟩⟩
theorem b17_0_37 {G : GG} {d : Nat} {Q : Option Value → mm_M → Prop} {l0 : Nat} {M : mm_M} (h : Q none M) : BB G d none P17 Q S17_0_37 37 [.ref l0] [] M := h
theorem e17 {G : GG} {d : Nat} {P : mm_M → Prop} {l0 : Nat} {M : mm_M} (h : l0 ≠ 0 ∧ (mK (nw M 14 6 6) l0 = 3 ∧ (mS M) ≠ 0) ∧ (mK (nw (sR (nw M 14 6 6) l0 1 (mS M)) 14 6 6) l0 = 3 ∧ (mS (sR (nw M 14 6 6) l0 1 (mS M))) ≠ 0) ∧ BB G d none P17 (QV P) S17_0_20 20 [.ref l0] [] (sR (nw (sR (nw M 14 6 6) l0 1 (mS M)) 14 6 6) l0 2 (mS (sR (nw M 14 6 6) l0 1 (mS M))))) : CV G (d + 1) 17 [.ref l0] M P := CV_in (nL := 1) (rt := none) (bs := P17) rfl (Nat.le_of_ble_eq_true rfl) (XX_at _ rfl ⟨⟨h.1, Nat.le_of_ble_eq_true rfl⟩, ⟨⟨by decide, by decide⟩, ⟨⟨h.2.1.1, rfl, h.2.1.2⟩, ⟨⟨by decide, by decide⟩, ⟨⟨h.2.2.1.1, rfl, h.2.2.1.2⟩, h.2.2.2⟩⟩⟩⟩⟩)
/- ShoeOrchard$Matching.begin(II)V cuts [] -/
theorem e18 {G : GG} {d : Nat} {P : mm_M → Prop} {l0 : Nat} {l1 : Int32} {l2 : Int32} {M : mm_M} (h : CI G d 287 [.int (6 : Int32), .int l1] M (fun v1 N2 => mK N2 l0 = 3 ∧ CI G d 287 [.int (6 : Int32), .int l2] (sI N2 l0 4 v1) (fun v3 N4 => mK N4 l0 = 3 ∧ P (sI N4 l0 5 v3)))) : CV G (d + 1) 18 [.ref l0, .int l1, .int l2] M P := CV_in (nL := 3) (rt := none) (bs := P18) rfl (Nat.le_of_ble_eq_true rfl) (XX_at _ rfl ⟨⟨Nat.le_of_ble_eq_true rfl, Nat.le_of_ble_eq_true rfl⟩, (match h with | ⟨v1, N2, hc1001, hk1002⟩ => ⟨some (.int v1), N2, hc1001, ⟨hk1002.1, ⟨⟨Nat.le_of_ble_eq_true rfl, Nat.le_of_ble_eq_true rfl⟩, (match hk1002.2 with | ⟨v3, N4, hc1003, hk1004⟩ => ⟨some (.int v3), N4, hc1003, ⟨hk1004.1, ⟨rfl, hk1004.2⟩⟩⟩)⟩⟩⟩)⟩)
/- ShoeOrchard$Matching.solve()V cuts [15, 21, 74] -/
def S19_21_48 : List Instr := [.iinc 2 1, .goto (-30)]
def S19_109_122 : List Instr := [.goto (-48)]
def S19_117_122 : List Instr := [.goto (-48)]
theorem b19_109_122 {G : GG} {d : Nat} {Q : Option Value → mm_M → Prop} {l0 : Nat} {l1 : Int32} {l2 : Int32} {M : mm_M} (h : XX G d none P19 Q 74 [.ref l0, .int l1, .int l2] [] M) : BB G d none P19 Q S19_109_122 122 [.ref l0, .int l1, .int l2] [] M := h
theorem b19_117_122 {G : GG} {d : Nat} {Q : Option Value → mm_M → Prop} {l0 : Nat} {l1 : Int32} {l2 : Int32} {M : mm_M} (h : XX G d none P19 Q 74 [.ref l0, .int l1, .int l2] [] M) : BB G d none P19 Q S19_117_122 122 [.ref l0, .int l1, .int l2] [] M := h
theorem b19_21_48 {G : GG} {d : Nat} {Q : Option Value → mm_M → Prop} {l0 : Nat} {l1 : Int32} {l2 : Int32} {M : mm_M} (h : XX G d none P19 Q 21 [.ref l0, .int l1, .int (l2 + (1 : Int32))] [] M) : BB G d none P19 Q S19_21_48 48 [.ref l0, .int l1, .int l2] [] M := h
theorem x19_15 {G : GG} {d : Nat} {Q : Option Value → mm_M → Prop} {l0 : Nat} {l1 : Int32} {M : mm_M} (h : ifP (l1 < 0) (mK M l0 = 3 ∧ (mK M (mR M l0 6) = 14 ∧ vp_in (0 : Int32) (mN M (mR M l0 6))) ∧ mK M l0 = 3 ∧ XX G d none P19 Q 74 [.ref l0, .int (0 : Int32), .int (0 : Int32)] [] (sI M l0 0 (mI M (mR M l0 6) 0))) (XX G d none P19 Q 21 [.ref l0, .int l1, .int (0 : Int32)] [] M)) : XX G d none P19 Q 15 [.ref l0, .int l1, jk] [] M := XX_at _ rfl ⟨fun q1001 => (XX_at _ rfl ⟨(h.1 q1001).1, ⟨(h.1 q1001).2.1, ⟨(h.1 q1001).2.2.1, (h.1 q1001).2.2.2⟩⟩⟩), fun q1001 => (h.2 q1001)⟩
theorem x19_21 {G : GG} {d : Nat} {Q : Option Value → mm_M → Prop} {l0 : Nat} {l1 : Int32} {l2 : Int32} {M : mm_M} (h : mK M l0 = 3 ∧ ifP (((1 : Int32) <<< ((mI M l0 5) &&& 31)) ≤ l2) (XX G d none P19 Q 15 [.ref l0, .int (l1 + (-1 : Int32)), jk] [] M) (mK M l0 = 3 ∧ mK M l0 = 3 ∧ CI G d 20 [.ref l0, .int l1, .int l2] M (fun v1 N2 => (mK N2 (mR M l0 6) = 14 ∧ vp_in ((l1 * (64 : Int32)) + l2) (mN N2 (mR M l0 6))) ∧ BB G d none P19 Q S19_21_48 48 [.ref l0, .int l1, .int l2] [] (sI N2 (mR M l0 6) (((l1 * (64 : Int32)) + l2).toNatClampNeg) v1)))) : XX G d none P19 Q 21 [.ref l0, .int l1, .int l2] [] M := XX_at _ rfl ⟨h.1, ⟨fun q1001 => (XX_at _ rfl (XX_lw (h.2.1 q1001) ⟨Or.inl rfl, Or.inl rfl, Or.inr rfl, trivial⟩)), fun q1001 => ⟨(h.2.2 q1001).1, ⟨⟨(h.2.2 q1001).2.1, Nat.le_of_ble_eq_true rfl⟩, ⟨Nat.le_of_ble_eq_true rfl, Nat.le_of_ble_eq_true rfl⟩, (match (h.2.2 q1001).2.2 with | ⟨v1, N2, hc1002, hk1003⟩ => ⟨some (.int v1), N2, hc1002, ⟨hk1003.1, hk1003.2⟩⟩)⟩⟩⟩⟩
theorem x19_74 {G : GG} {d : Nat} {Q : Option Value → mm_M → Prop} {l0 : Nat} {l1 : Int32} {l2 : Int32} {M : mm_M} (h : mK M l0 = 3 ∧ ifP ((mI M l0 4) ≤ l2) (Q none M) (mK M l0 = 3 ∧ mK M l0 = 3 ∧ CI G d 22 [.ref l0, .int l2, .int l1] M (fun v1 N2 => (mK N2 (mR M l0 3) = 14 ∧ vp_in l2 (mN N2 (mR M l0 3))) ∧ mK (sI N2 (mR M l0 3) l2.toNatClampNeg v1) l0 = 3 ∧ (mK (sI N2 (mR M l0 3) l2.toNatClampNeg v1) (mR (sI N2 (mR M l0 3) l2.toNatClampNeg v1) l0 3) = 14 ∧ vp_in l2 (mN (sI N2 (mR M l0 3) l2.toNatClampNeg v1) (mR (sI N2 (mR M l0 3) l2.toNatClampNeg v1) l0 3))) ∧ ifP (¬ (mI (sI N2 (mR M l0 3) l2.toNatClampNeg v1) (mR (sI N2 (mR M l0 3) l2.toNatClampNeg v1) l0 3) l2.toNatClampNeg) = (-1 : Int32)) (mK (sI N2 (mR M l0 3) l2.toNatClampNeg v1) l0 = 3 ∧ (mK (sI N2 (mR M l0 3) l2.toNatClampNeg v1) (mR (sI N2 (mR M l0 3) l2.toNatClampNeg v1) l0 3) = 14 ∧ vp_in l2 (mN (sI N2 (mR M l0 3) l2.toNatClampNeg v1) (mR (sI N2 (mR M l0 3) l2.toNatClampNeg v1) l0 3))) ∧ BB G d none P19 Q S19_109_122 122 [.ref l0, .int (l1 ||| ((1 : Int32) <<< ((mI (sI N2 (mR M l0 3) l2.toNatClampNeg v1) (mR (sI N2 (mR M l0 3) l2.toNatClampNeg v1) l0 3) l2.toNatClampNeg) &&& 31))), .int (l2 + (1 : Int32))] [] (sI N2 (mR M l0 3) l2.toNatClampNeg v1)) (BB G d none P19 Q S19_117_122 122 [.ref l0, .int (l1 ||| (0 : Int32)), .int (l2 + (1 : Int32))] [] (sI N2 (mR M l0 3) l2.toNatClampNeg v1))))) : XX G d none P19 Q 74 [.ref l0, .int l1, .int l2] [] M := XX_at _ rfl ⟨h.1, ⟨fun q1001 => (XX_at _ rfl (h.2.1 q1001)), fun q1001 => ⟨(h.2.2 q1001).1, ⟨⟨(h.2.2 q1001).2.1, Nat.le_of_ble_eq_true rfl⟩, ⟨Nat.le_of_ble_eq_true rfl, Nat.le_of_ble_eq_true rfl⟩, (match (h.2.2 q1001).2.2 with | ⟨v1, N2, hc1002, hk1003⟩ => ⟨some (.int v1), N2, hc1002, ⟨hk1003.1, ⟨hk1003.2.1, ⟨hk1003.2.2.1, ⟨fun q1004 => (XX_at _ rfl ⟨(hk1003.2.2.2.1 q1004).1, ⟨(hk1003.2.2.2.1 q1004).2.1, (hk1003.2.2.2.1 q1004).2.2⟩⟩), fun q1004 => (XX_at _ rfl (hk1003.2.2.2.2 q1004))⟩⟩⟩⟩⟩)⟩⟩⟩⟩
theorem e19 {G : GG} {d : Nat} {P : mm_M → Prop} {l0 : Nat} {M : mm_M} (h : mK M l0 = 3 ∧ CV G d 284 [.ref (mR M l0 6), .int (0 : Int32)] M (fun N2 => mK N2 l0 = 3 ∧ XX G d none P19 (QV P) 15 [.ref l0, .int ((mI N2 l0 4) - (1 : Int32)), jk] [] N2)) : CV G (d + 1) 19 [.ref l0] M P := CV_in (nL := 3) (rt := none) (bs := P19) rfl (Nat.le_of_ble_eq_true rfl) (XX_at _ rfl ⟨h.1, ⟨⟨Nat.le_of_ble_eq_true rfl, Nat.le_of_ble_eq_true rfl⟩, (match h.2 with | ⟨N2, hc1001, hk1002⟩ => ⟨none, N2, hc1001, ⟨hk1002.1, hk1002.2⟩⟩)⟩⟩)
/- ShoeOrchard$Matching.mostFrom(II)I cuts [17] -/
def S20_17_42 : List Instr := [.goto (-25)]
theorem b20_17_42 {G : GG} {d : Nat} {Q : Option Value → mm_M → Prop} {l0 : Nat} {l1 : Int32} {l2 : Int32} {l3 : Int32} {l4 : Int32} {M : mm_M} (h : XX G d (some .int) P20 Q 17 [.ref l0, .int l1, .int l2, .int l3, .int l4] [] M) : BB G d (some .int) P20 Q S20_17_42 42 [.ref l0, .int l1, .int l2, .int l3, .int l4] [] M := h
theorem x20_17 {G : GG} {d : Nat} {Q : Option Value → mm_M → Prop} {l0 : Nat} {l1 : Int32} {l2 : Int32} {l3 : Int32} {l4 : Int32} {M : mm_M} (h : mK M l0 = 3 ∧ ifP ((mI M l0 5) ≤ l4) (Q (some (.int l3)) M) (mK M l0 = 3 ∧ CI G d 21 [.ref l0, .int l1, .int l2, .int l4] M (fun v1 N2 => CI G d 286 [.int l3, .int v1] N2 (fun v3 N4 => BB G d (some .int) P20 Q S20_17_42 42 [.ref l0, .int l1, .int l2, .int v3, .int (l4 + (1 : Int32))] [] N4)))) : XX G d (some .int) P20 Q 17 [.ref l0, .int l1, .int l2, .int l3, .int l4] [] M := XX_at _ rfl ⟨h.1, ⟨fun q1001 => (XX_at _ rfl ⟨rfl, (h.2.1 q1001)⟩), fun q1001 => ⟨⟨(h.2.2 q1001).1, Nat.le_of_ble_eq_true rfl⟩, ⟨Nat.le_of_ble_eq_true rfl, Nat.le_of_ble_eq_true rfl⟩, (match (h.2.2 q1001).2 with | ⟨v1, N2, hc1002, hk1003⟩ => ⟨some (.int v1), N2, hc1002, ⟨⟨Nat.le_of_ble_eq_true rfl, Nat.le_of_ble_eq_true rfl⟩, (match hk1003 with | ⟨v3, N4, hc1004, hk1005⟩ => ⟨some (.int v3), N4, hc1004, hk1005⟩)⟩⟩)⟩⟩⟩
theorem e20 {G : GG} {d : Nat} {P : Int32 → mm_M → Prop} {l0 : Nat} {l1 : Int32} {l2 : Int32} {M : mm_M} (h : mK M l0 = 3 ∧ (mK M (mR M l0 6) = 14 ∧ vp_in (((l1 + (1 : Int32)) * (64 : Int32)) + l2) (mN M (mR M l0 6))) ∧ XX G d (some .int) P20 (QI P) 17 [.ref l0, .int l1, .int l2, .int (mI M (mR M l0 6) ((((l1 + (1 : Int32)) * (64 : Int32)) + l2).toNatClampNeg)), .int (0 : Int32)] [] M) : CI G (d + 1) 20 [.ref l0, .int l1, .int l2] M P := CI_in (nL := 5) (rt := (some .int)) (bs := P20) rfl (Nat.le_of_ble_eq_true rfl) (XX_at _ rfl ⟨h.1, ⟨h.2.1, h.2.2⟩⟩)
/- ShoeOrchard$Matching.mostBy(III)I cuts [] -/
theorem e21 {G : GG} {d : Nat} {P : Int32 → mm_M → Prop} {l0 : Nat} {l1 : Int32} {l2 : Int32} {l3 : Int32} {M : mm_M} (h : mK M l0 = 3 ∧ (mK M (mR M l0 1) = 14 ∧ vp_in l1 (mN M (mR M l0 1))) ∧ ifP (((((mI M (mR M l0 1) l1.toNatClampNeg) &&& (l2 ^^^ (-1 : Int32))) >>> (l3 &&& 31)) &&& (1 : Int32)) = 0) (P (-1 : Int32) M) (mK M l0 = 3 ∧ (mK M (mR M l0 2) = 14 ∧ vp_in l3 (mN M (mR M l0 2))) ∧ mK M l0 = 3 ∧ (mK M (mR M l0 6) = 14 ∧ vp_in (((l1 + (1 : Int32)) * (64 : Int32)) + (l2 ||| ((1 : Int32) <<< (l3 &&& 31)))) (mN M (mR M l0 6))) ∧ P ((mI M (mR M l0 2) l3.toNatClampNeg) + (mI M (mR M l0 6) ((((l1 + (1 : Int32)) * (64 : Int32)) + (l2 ||| ((1 : Int32) <<< (l3 &&& 31)))).toNatClampNeg))) M)) : CI G (d + 1) 21 [.ref l0, .int l1, .int l2, .int l3] M P := CI_in (nL := 5) (rt := (some .int)) (bs := P21) rfl (Nat.le_of_ble_eq_true rfl) (XX_at _ rfl ⟨h.1, ⟨h.2.1, ⟨fun q1001 => (XX_at _ rfl ⟨fun _ => (XX_at _ rfl ⟨rfl, ⟨_, rfl, (h.2.2.1 q1001)⟩⟩), fun q => absurd (show (0 : Int32) = 0 by decide) q⟩), fun q1001 => (XX_at _ rfl ⟨fun q => absurd (show (1 : Int32) = 0 from q) (by decide), fun _ => ⟨(h.2.2.2 q1001).1, ⟨(h.2.2.2 q1001).2.1, ⟨(h.2.2.2 q1001).2.2.1, ⟨(h.2.2.2 q1001).2.2.2.1, (XX_at _ rfl ⟨rfl, ⟨_, rfl, (h.2.2.2 q1001).2.2.2.2⟩⟩)⟩⟩⟩⟩⟩)⟩⟩⟩)
/- ShoeOrchard$Matching.firstOfMost(II)I cuts [2] -/
theorem x22_2 {G : GG} {d : Nat} {Q : Option Value → mm_M → Prop} {l0 : Nat} {l1 : Int32} {l2 : Int32} {l3 : Int32} {M : mm_M} (h : mK M l0 = 3 ∧ ifP ((mI M l0 5) ≤ l3) (Q (some (.int (-1 : Int32))) M) (mK M l0 = 3 ∧ CI G d 21 [.ref l0, .int l1, .int l2, .int l3] M (fun v1 N2 => mK N2 l0 = 3 ∧ (mK N2 (mR N2 l0 6) = 14 ∧ vp_in ((l1 * (64 : Int32)) + l2) (mN N2 (mR N2 l0 6))) ∧ ifP (¬ v1 = (mI N2 (mR N2 l0 6) (((l1 * (64 : Int32)) + l2).toNatClampNeg))) (XX G d (some .int) P22 Q 2 [.ref l0, .int l1, .int l2, .int (l3 + (1 : Int32))] [] N2) (Q (some (.int l3)) N2)))) : XX G d (some .int) P22 Q 2 [.ref l0, .int l1, .int l2, .int l3] [] M := XX_at _ rfl ⟨h.1, ⟨fun q1001 => (XX_at _ rfl ⟨rfl, (h.2.1 q1001)⟩), fun q1001 => ⟨⟨(h.2.2 q1001).1, Nat.le_of_ble_eq_true rfl⟩, ⟨Nat.le_of_ble_eq_true rfl, Nat.le_of_ble_eq_true rfl⟩, (match (h.2.2 q1001).2 with | ⟨v1, N2, hc1002, hk1003⟩ => ⟨some (.int v1), N2, hc1002, ⟨hk1003.1, ⟨hk1003.2.1, ⟨fun q1004 => (XX_at _ rfl (hk1003.2.2.1 q1004)), fun q1004 => ⟨rfl, (hk1003.2.2.2 q1004)⟩⟩⟩⟩⟩)⟩⟩⟩
theorem e22 {G : GG} {d : Nat} {P : Int32 → mm_M → Prop} {l0 : Nat} {l1 : Int32} {l2 : Int32} {M : mm_M} (h : XX G d (some .int) P22 (QI P) 2 [.ref l0, .int l1, .int l2, .int (0 : Int32)] [] M) : CI G (d + 1) 22 [.ref l0, .int l1, .int l2] M P := CI_in (nL := 4) (rt := (some .int)) (bs := P22) rfl (Nat.le_of_ble_eq_true rfl) (XX_at _ rfl h)
end
section
/- ShoeOrchard$MorningReader.<init>()V cuts [] -/
theorem e23 {G : GG} {d : Nat} {P : mm_M → Prop} {l0 : Nat} {M : mm_M} (h : l0 ≠ 0 ∧ (mS M) ≠ 0 ∧ CV G d 12 [.ref (mS M)] (nw M 2 0 4) (fun N2 => (mK N2 l0 = 4 ∧ (mS M) ≠ 0) ∧ P (sR N2 l0 0 (mS M)))) : CV G (d + 1) 23 [.ref l0] M P := CV_in (nL := 1) (rt := none) (bs := P23) rfl (Nat.le_of_ble_eq_true rfl) (XX_at _ rfl ⟨⟨h.1, Nat.le_of_ble_eq_true rfl⟩, ⟨Nat.le_of_ble_eq_true rfl, ⟨h.2.1, ⟨Nat.le_of_ble_eq_true rfl, Nat.le_of_ble_eq_true rfl⟩, (match h.2.2 with | ⟨N2, hc1001, hk1002⟩ => ⟨none, N2, hc1001, ⟨⟨hk1002.1.1, rfl, hk1002.1.2⟩, ⟨rfl, hk1002.2⟩⟩⟩)⟩⟩⟩)
/- ShoeOrchard$MorningReader.read(LShoeOrchard$Tape;LShoeOrchard$Plan;)I cuts [13] -/
theorem x24_13 {G : GG} {d : Nat} {Q : Option Value → mm_M → Prop} {l0 : Nat} {l1 : Nat} {l2 : Nat} {l3 : Int32} {M : mm_M} (h : ifP ((1000 : Int32) ≤ l3) (Q (some (.int (0 : Int32))) M) (mK M l1 = 10 ∧ ifP ((mI M l1 1) = 0) (Q (some (.int (0 : Int32))) M) (mK M l0 = 4 ∧ CI G d 25 [.ref l0, .ref l1, .ref l2] M (fun v1 N2 => ifP (v1 = 0) (mK N2 l1 = 10 ∧ Q (some (.int (mI N2 l1 4))) N2) (mK N2 l1 = 10 ∧ CI G d 105 [.ref l1, .int (59 : Int32)] N2 (fun v3 N4 => ifP (¬ v3 = 0) (XX G d (some .int) P24 Q 13 [.ref l0, .ref l1, .ref l2, .int (l3 + (1 : Int32))] [] N4) (mK N4 l1 = 10 ∧ Q (some (.int (mI N4 l1 4))) N4))))))) : XX G d (some .int) P24 Q 13 [.ref l0, .ref l1, .ref l2, .int l3] [] M := XX_at _ rfl ⟨fun q1001 => (XX_at _ rfl ⟨rfl, (h.1 q1001)⟩), fun q1001 => ⟨(h.2 q1001).1, ⟨fun q1002 => (XX_at _ rfl ⟨rfl, ((h.2 q1001).2.1 q1002)⟩), fun q1002 => ⟨⟨((h.2 q1001).2.2 q1002).1, Nat.le_of_ble_eq_true rfl⟩, ⟨Nat.le_of_ble_eq_true rfl, Nat.le_of_ble_eq_true rfl⟩, (match ((h.2 q1001).2.2 q1002).2 with | ⟨v1, N2, hc1003, hk1004⟩ => ⟨some (.int v1), N2, hc1003, ⟨fun q1005 => (XX_at _ rfl ⟨(hk1004.1 q1005).1, ⟨rfl, (hk1004.1 q1005).2⟩⟩), fun q1005 => ⟨⟨(hk1004.2 q1005).1, Nat.le_of_ble_eq_true rfl⟩, ⟨Nat.le_of_ble_eq_true rfl, Nat.le_of_ble_eq_true rfl⟩, (match (hk1004.2 q1005).2 with | ⟨v3, N4, hc1006, hk1007⟩ => ⟨some (.int v3), N4, hc1006, ⟨fun q1008 => (XX_at _ rfl (hk1007.1 q1008)), fun q1008 => ⟨(hk1007.2 q1008).1, ⟨rfl, (hk1007.2 q1008).2⟩⟩⟩⟩)⟩⟩⟩)⟩⟩⟩⟩
theorem e24 {G : GG} {d : Nat} {P : Int32 → mm_M → Prop} {l0 : Nat} {l1 : Nat} {l2 : Nat} {M : mm_M} (h : mK M l0 = 4 ∧ mK M (mR M l0 0) = 2 ∧ CV G d 13 [.ref (mR M l0 0)] M (fun N2 => mK N2 l1 = 10 ∧ CV G d 89 [.ref l1] N2 (fun N4 => XX G d (some .int) P24 (QI P) 13 [.ref l0, .ref l1, .ref l2, .int (0 : Int32)] [] N4))) : CI G (d + 1) 24 [.ref l0, .ref l1, .ref l2] M P := CI_in (nL := 4) (rt := (some .int)) (bs := P24) rfl (Nat.le_of_ble_eq_true rfl) (XX_at _ rfl ⟨h.1, ⟨⟨h.2.1, Nat.le_of_ble_eq_true rfl⟩, ⟨Nat.le_of_ble_eq_true rfl, Nat.le_of_ble_eq_true rfl⟩, (match h.2.2 with | ⟨N2, hc1001, hk1002⟩ => ⟨none, N2, hc1001, ⟨⟨hk1002.1, Nat.le_of_ble_eq_true rfl⟩, ⟨Nat.le_of_ble_eq_true rfl, Nat.le_of_ble_eq_true rfl⟩, (match hk1002.2 with | ⟨N4, hc1003, hk1004⟩ => ⟨none, N4, hc1003, hk1004⟩)⟩⟩)⟩⟩)
/- ShoeOrchard$MorningReader.readLine(LShoeOrchard$Tape;LShoeOrchard$Plan;)Z cuts [67, 68, 119] -/
def S25_36_43 : List Instr := [.iconst (-1), .istore 5, .iload_n 3, .iconst 4, .if_icmp .eq 26, .aload_n 0, .aload_n 1, .aload_n 2, .iload_n 3, .ifCond .eq 8, .iload_n 3, .iconst 1, .if_icmp .ne 7, .iconst 1, .goto 4]
def S25_112_119 : List Instr := [.aload_n 0, .getfield 256, .iload_n 3, .iload 4, .iload 5, .invokevirtual 14, .aload_n 1, .getfield 644, .ifCond .ne 7, .iconst 1, .goto 4]
def S25_114_119 : List Instr := [.aload_n 0, .getfield 256, .iload_n 3, .iload 4, .iload 5, .invokevirtual 14, .aload_n 1, .getfield 644, .ifCond .ne 7, .iconst 1, .goto 4]
theorem b25_112_119 {G : GG} {d : Nat} {Q : Option Value → mm_M → Prop} {l0 : Nat} {l1 : Nat} {l2 : Nat} {l3 : Int32} {l4 : Int32} {l5 : Int32} {M : mm_M} (h : mK M l0 = 4 ∧ mK M (mR M l0 0) = 2 ∧ CV G d 14 [.ref (mR M l0 0), .int l3, .int l4, .int l5] M (fun N2 => mK N2 l1 = 10 ∧ ifP (¬ (mI N2 l1 4) = 0) (Q (some (.int (0 : Int32))) N2) (Q (some (.int (1 : Int32))) N2))) : BB G d (some .boolean) P25 Q S25_112_119 119 [.ref l0, .ref l1, .ref l2, .int l3, .int l4, .int l5] [] M := ⟨h.1, ⟨⟨h.2.1, Nat.le_of_ble_eq_true rfl⟩, ⟨Nat.le_of_ble_eq_true rfl, Nat.le_of_ble_eq_true rfl⟩, (match h.2.2 with | ⟨N2, hc1001, hk1002⟩ => ⟨none, N2, hc1001, ⟨hk1002.1, ⟨fun q1003 => (XX_at _ rfl ⟨rfl, (hk1002.2.1 q1003)⟩), fun q1003 => (XX_at _ rfl ⟨rfl, (hk1002.2.2 q1003)⟩)⟩⟩⟩)⟩⟩
theorem b25_114_119 {G : GG} {d : Nat} {Q : Option Value → mm_M → Prop} {l0 : Nat} {l1 : Nat} {l2 : Nat} {l3 : Int32} {l4 : Int32} {l5 : Int32} {M : mm_M} (h : mK M l0 = 4 ∧ mK M (mR M l0 0) = 2 ∧ CV G d 14 [.ref (mR M l0 0), .int l3, .int l4, .int l5] M (fun N2 => mK N2 l1 = 10 ∧ ifP (¬ (mI N2 l1 4) = 0) (Q (some (.int (0 : Int32))) N2) (Q (some (.int (1 : Int32))) N2))) : BB G d (some .boolean) P25 Q S25_114_119 119 [.ref l0, .ref l1, .ref l2, .int l3, .int l4, .int l5] [] M := ⟨h.1, ⟨⟨h.2.1, Nat.le_of_ble_eq_true rfl⟩, ⟨Nat.le_of_ble_eq_true rfl, Nat.le_of_ble_eq_true rfl⟩, (match h.2.2 with | ⟨N2, hc1001, hk1002⟩ => ⟨none, N2, hc1001, ⟨hk1002.1, ⟨fun q1003 => (XX_at _ rfl ⟨rfl, (hk1002.2.1 q1003)⟩), fun q1003 => (XX_at _ rfl ⟨rfl, (hk1002.2.2 q1003)⟩)⟩⟩⟩)⟩⟩
theorem b25_36_43 {G : GG} {d : Nat} {Q : Option Value → mm_M → Prop} {l0 : Nat} {l1 : Nat} {l2 : Nat} {l3 : Int32} {l4 : Int32} {M : mm_M} (h : ifP (l3 = (4 : Int32)) (mK M l1 = 10 ∧ ifP (¬ (mI M l1 4) = 0) (XX G d (some .boolean) P25 Q 119 [.ref l0, .ref l1, .ref l2, .int l3, .int l4, .int (-1 : Int32)] [] M) (ifP (l3 = (4 : Int32)) (XX G d (some .boolean) P25 Q 119 [.ref l0, .ref l1, .ref l2, .int l3, .int l4, .int (-1 : Int32)] [] M) (ifP (l3 = (3 : Int32)) (XX G d (some .boolean) P25 Q 119 [.ref l0, .ref l1, .ref l2, .int l3, .int l4, .int (-1 : Int32)] [] M) (ifP (¬ l3 = (1 : Int32)) (ifP (¬ l3 = 0) (mK M l0 = 4 ∧ CI G d 26 [.ref l0, .ref l1, .ref l2, .int (0 : Int32), .int l4] M (fun v1 N2 => BB G d (some .boolean) P25 Q S25_112_119 119 [.ref l0, .ref l1, .ref l2, .int l3, .int l4, .int v1] [] N2)) (mK M l0 = 4 ∧ CI G d 26 [.ref l0, .ref l1, .ref l2, .int (0 : Int32), .int (-1 : Int32)] M (fun v3 N4 => BB G d (some .boolean) P25 Q S25_114_119 119 [.ref l0, .ref l1, .ref l2, .int l3, .int l4, .int v3] [] N4))) (ifP (¬ l3 = 0) (mK M l0 = 4 ∧ CI G d 26 [.ref l0, .ref l1, .ref l2, .int (1 : Int32), .int l4] M (fun v5 N6 => BB G d (some .boolean) P25 Q S25_112_119 119 [.ref l0, .ref l1, .ref l2, .int l3, .int l4, .int v5] [] N6)) (mK M l0 = 4 ∧ CI G d 26 [.ref l0, .ref l1, .ref l2, .int (1 : Int32), .int (-1 : Int32)] M (fun v7 N8 => BB G d (some .boolean) P25 Q S25_114_119 119 [.ref l0, .ref l1, .ref l2, .int l3, .int l4, .int v7] [] N8))))))) (ifP (l3 = 0) (XX G d (some .boolean) P25 Q 68 [.ref l0, .ref l1, .ref l2, .int l3, .int l4, .int (-1 : Int32)] [.int (1 : Int32), .ref l2, .ref l1, .ref l0] M) (ifP (¬ l3 = (1 : Int32)) (XX G d (some .boolean) P25 Q 67 [.ref l0, .ref l1, .ref l2, .int l3, .int l4, .int (-1 : Int32)] [.ref l2, .ref l1, .ref l0] M) (XX G d (some .boolean) P25 Q 68 [.ref l0, .ref l1, .ref l2, .int l3, .int l4, .int (-1 : Int32)] [.int (1 : Int32), .ref l2, .ref l1, .ref l0] M)))) : BB G d (some .boolean) P25 Q S25_36_43 43 [.ref l0, .ref l1, .ref l2, .int l3, .int l4, jk] [] M := ⟨fun q1001 => (XX_at _ rfl ⟨(h.1 q1001).1, ⟨fun q1002 => ((h.1 q1001).2.1 q1002), fun q1002 => ⟨fun q1003 => (((h.1 q1001).2.2 q1002).1 q1003), fun q1003 => ⟨fun q1004 => ((((h.1 q1001).2.2 q1002).2 q1003).1 q1004), fun q1004 => ⟨fun q1005 => (XX_at _ rfl ⟨fun q1006 => (XX_at _ rfl ⟨⟨((((((h.1 q1001).2.2 q1002).2 q1003).2 q1004).1 q1005).1 q1006).1, Nat.le_of_ble_eq_true rfl⟩, ⟨Nat.le_of_ble_eq_true rfl, Nat.le_of_ble_eq_true rfl⟩, (match ((((((h.1 q1001).2.2 q1002).2 q1003).2 q1004).1 q1005).1 q1006).2 with | ⟨v1, N2, hc1007, hk1008⟩ => ⟨some (.int v1), N2, hc1007, hk1008⟩)⟩), fun q1006 => (XX_at _ rfl ⟨⟨((((((h.1 q1001).2.2 q1002).2 q1003).2 q1004).1 q1005).2 q1006).1, Nat.le_of_ble_eq_true rfl⟩, ⟨Nat.le_of_ble_eq_true rfl, Nat.le_of_ble_eq_true rfl⟩, (match ((((((h.1 q1001).2.2 q1002).2 q1003).2 q1004).1 q1005).2 q1006).2 with | ⟨v3, N4, hc1009, hk1010⟩ => ⟨some (.int v3), N4, hc1009, hk1010⟩)⟩)⟩), fun q1005 => (XX_at _ rfl ⟨fun q1011 => (XX_at _ rfl ⟨⟨((((((h.1 q1001).2.2 q1002).2 q1003).2 q1004).2 q1005).1 q1011).1, Nat.le_of_ble_eq_true rfl⟩, ⟨Nat.le_of_ble_eq_true rfl, Nat.le_of_ble_eq_true rfl⟩, (match ((((((h.1 q1001).2.2 q1002).2 q1003).2 q1004).2 q1005).1 q1011).2 with | ⟨v5, N6, hc1012, hk1013⟩ => ⟨some (.int v5), N6, hc1012, hk1013⟩)⟩), fun q1011 => (XX_at _ rfl ⟨⟨((((((h.1 q1001).2.2 q1002).2 q1003).2 q1004).2 q1005).2 q1011).1, Nat.le_of_ble_eq_true rfl⟩, ⟨Nat.le_of_ble_eq_true rfl, Nat.le_of_ble_eq_true rfl⟩, (match ((((((h.1 q1001).2.2 q1002).2 q1003).2 q1004).2 q1005).2 q1011).2 with | ⟨v7, N8, hc1014, hk1015⟩ => ⟨some (.int v7), N8, hc1014, hk1015⟩)⟩)⟩)⟩⟩⟩⟩⟩), fun q1001 => ⟨fun q1016 => (XX_at _ rfl ((h.2 q1001).1 q1016)), fun q1016 => ⟨fun q1017 => (((h.2 q1001).2 q1016).1 q1017), fun q1017 => (((h.2 q1001).2 q1016).2 q1017)⟩⟩⟩
theorem x25_119 {G : GG} {d : Nat} {Q : Option Value → mm_M → Prop} {l0 : Nat} {l1 : Nat} {l2 : Nat} {l3 : Int32} {l4 : Int32} {l5 : Int32} {M : mm_M} (h : mK M l0 = 4 ∧ mK M (mR M l0 0) = 2 ∧ CV G d 14 [.ref (mR M l0 0), .int l3, .int l4, .int l5] M (fun N2 => mK N2 l1 = 10 ∧ ifP (¬ (mI N2 l1 4) = 0) (Q (some (.int (0 : Int32))) N2) (Q (some (.int (1 : Int32))) N2))) : XX G d (some .boolean) P25 Q 119 [.ref l0, .ref l1, .ref l2, .int l3, .int l4, .int l5] [] M := XX_at _ rfl ⟨h.1, ⟨⟨h.2.1, Nat.le_of_ble_eq_true rfl⟩, ⟨Nat.le_of_ble_eq_true rfl, Nat.le_of_ble_eq_true rfl⟩, (match h.2.2 with | ⟨N2, hc1001, hk1002⟩ => ⟨none, N2, hc1001, ⟨hk1002.1, ⟨fun q1003 => (XX_at _ rfl ⟨rfl, (hk1002.2.1 q1003)⟩), fun q1003 => (XX_at _ rfl ⟨rfl, (hk1002.2.2 q1003)⟩)⟩⟩⟩)⟩⟩
theorem x25_67 {G : GG} {d : Nat} {Q : Option Value → mm_M → Prop} {l0 : Nat} {l1 : Nat} {l2 : Nat} {l3 : Int32} {l4 : Int32} {l5 : Int32} {s0 : Nat} {s1 : Nat} {s2 : Nat} {M : mm_M} (h : mK M s2 = 4 ∧ CI G d 26 [.ref s2, .ref s1, .ref s0, .int (0 : Int32), .int (-1 : Int32)] M (fun v1 N2 => mK N2 l1 = 10 ∧ ifP (¬ (mI N2 l1 4) = 0) (XX G d (some .boolean) P25 Q 119 [.ref l0, .ref l1, .ref l2, .int l3, .int v1, .int l5] [] N2) (ifP (l3 = (4 : Int32)) (XX G d (some .boolean) P25 Q 119 [.ref l0, .ref l1, .ref l2, .int l3, .int v1, .int l5] [] N2) (ifP (l3 = (3 : Int32)) (XX G d (some .boolean) P25 Q 119 [.ref l0, .ref l1, .ref l2, .int l3, .int v1, .int l5] [] N2) (ifP (¬ l3 = (1 : Int32)) (ifP (¬ l3 = 0) (mK N2 l0 = 4 ∧ CI G d 26 [.ref l0, .ref l1, .ref l2, .int (0 : Int32), .int v1] N2 (fun v3 N4 => BB G d (some .boolean) P25 Q S25_112_119 119 [.ref l0, .ref l1, .ref l2, .int l3, .int v1, .int v3] [] N4)) (mK N2 l0 = 4 ∧ CI G d 26 [.ref l0, .ref l1, .ref l2, .int (0 : Int32), .int (-1 : Int32)] N2 (fun v5 N6 => BB G d (some .boolean) P25 Q S25_114_119 119 [.ref l0, .ref l1, .ref l2, .int l3, .int v1, .int v5] [] N6))) (ifP (¬ l3 = 0) (mK N2 l0 = 4 ∧ CI G d 26 [.ref l0, .ref l1, .ref l2, .int (1 : Int32), .int v1] N2 (fun v7 N8 => BB G d (some .boolean) P25 Q S25_112_119 119 [.ref l0, .ref l1, .ref l2, .int l3, .int v1, .int v7] [] N8)) (mK N2 l0 = 4 ∧ CI G d 26 [.ref l0, .ref l1, .ref l2, .int (1 : Int32), .int (-1 : Int32)] N2 (fun v9 N10 => BB G d (some .boolean) P25 Q S25_114_119 119 [.ref l0, .ref l1, .ref l2, .int l3, .int v1, .int v9] [] N10)))))))) : XX G d (some .boolean) P25 Q 67 [.ref l0, .ref l1, .ref l2, .int l3, .int l4, .int l5] [.ref s0, .ref s1, .ref s2] M := XX_at _ rfl ⟨⟨h.1, Nat.le_of_ble_eq_true rfl⟩, ⟨Nat.le_of_ble_eq_true rfl, Nat.le_of_ble_eq_true rfl⟩, (match h.2 with | ⟨v1, N2, hc1001, hk1002⟩ => ⟨some (.int v1), N2, hc1001, ⟨hk1002.1, ⟨fun q1003 => (hk1002.2.1 q1003), fun q1003 => ⟨fun q1004 => ((hk1002.2.2 q1003).1 q1004), fun q1004 => ⟨fun q1005 => (((hk1002.2.2 q1003).2 q1004).1 q1005), fun q1005 => ⟨fun q1006 => (XX_at _ rfl ⟨fun q1007 => (XX_at _ rfl ⟨⟨(((((hk1002.2.2 q1003).2 q1004).2 q1005).1 q1006).1 q1007).1, Nat.le_of_ble_eq_true rfl⟩, ⟨Nat.le_of_ble_eq_true rfl, Nat.le_of_ble_eq_true rfl⟩, (match (((((hk1002.2.2 q1003).2 q1004).2 q1005).1 q1006).1 q1007).2 with | ⟨v3, N4, hc1008, hk1009⟩ => ⟨some (.int v3), N4, hc1008, hk1009⟩)⟩), fun q1007 => (XX_at _ rfl ⟨⟨(((((hk1002.2.2 q1003).2 q1004).2 q1005).1 q1006).2 q1007).1, Nat.le_of_ble_eq_true rfl⟩, ⟨Nat.le_of_ble_eq_true rfl, Nat.le_of_ble_eq_true rfl⟩, (match (((((hk1002.2.2 q1003).2 q1004).2 q1005).1 q1006).2 q1007).2 with | ⟨v5, N6, hc1010, hk1011⟩ => ⟨some (.int v5), N6, hc1010, hk1011⟩)⟩)⟩), fun q1006 => (XX_at _ rfl ⟨fun q1012 => (XX_at _ rfl ⟨⟨(((((hk1002.2.2 q1003).2 q1004).2 q1005).2 q1006).1 q1012).1, Nat.le_of_ble_eq_true rfl⟩, ⟨Nat.le_of_ble_eq_true rfl, Nat.le_of_ble_eq_true rfl⟩, (match (((((hk1002.2.2 q1003).2 q1004).2 q1005).2 q1006).1 q1012).2 with | ⟨v7, N8, hc1013, hk1014⟩ => ⟨some (.int v7), N8, hc1013, hk1014⟩)⟩), fun q1012 => (XX_at _ rfl ⟨⟨(((((hk1002.2.2 q1003).2 q1004).2 q1005).2 q1006).2 q1012).1, Nat.le_of_ble_eq_true rfl⟩, ⟨Nat.le_of_ble_eq_true rfl, Nat.le_of_ble_eq_true rfl⟩, (match (((((hk1002.2.2 q1003).2 q1004).2 q1005).2 q1006).2 q1012).2 with | ⟨v9, N10, hc1015, hk1016⟩ => ⟨some (.int v9), N10, hc1015, hk1016⟩)⟩)⟩)⟩⟩⟩⟩⟩⟩)⟩
theorem x25_68 {G : GG} {d : Nat} {Q : Option Value → mm_M → Prop} {l0 : Nat} {l1 : Nat} {l2 : Nat} {l3 : Int32} {l4 : Int32} {l5 : Int32} {s0 : Int32} {s1 : Nat} {s2 : Nat} {s3 : Nat} {M : mm_M} (h : mK M s3 = 4 ∧ CI G d 26 [.ref s3, .ref s2, .ref s1, .int s0, .int (-1 : Int32)] M (fun v1 N2 => mK N2 l1 = 10 ∧ ifP (¬ (mI N2 l1 4) = 0) (XX G d (some .boolean) P25 Q 119 [.ref l0, .ref l1, .ref l2, .int l3, .int v1, .int l5] [] N2) (ifP (l3 = (4 : Int32)) (XX G d (some .boolean) P25 Q 119 [.ref l0, .ref l1, .ref l2, .int l3, .int v1, .int l5] [] N2) (ifP (l3 = (3 : Int32)) (XX G d (some .boolean) P25 Q 119 [.ref l0, .ref l1, .ref l2, .int l3, .int v1, .int l5] [] N2) (ifP (¬ l3 = (1 : Int32)) (ifP (¬ l3 = 0) (mK N2 l0 = 4 ∧ CI G d 26 [.ref l0, .ref l1, .ref l2, .int (0 : Int32), .int v1] N2 (fun v3 N4 => BB G d (some .boolean) P25 Q S25_112_119 119 [.ref l0, .ref l1, .ref l2, .int l3, .int v1, .int v3] [] N4)) (mK N2 l0 = 4 ∧ CI G d 26 [.ref l0, .ref l1, .ref l2, .int (0 : Int32), .int (-1 : Int32)] N2 (fun v5 N6 => BB G d (some .boolean) P25 Q S25_114_119 119 [.ref l0, .ref l1, .ref l2, .int l3, .int v1, .int v5] [] N6))) (ifP (¬ l3 = 0) (mK N2 l0 = 4 ∧ CI G d 26 [.ref l0, .ref l1, .ref l2, .int (1 : Int32), .int v1] N2 (fun v7 N8 => BB G d (some .boolean) P25 Q S25_112_119 119 [.ref l0, .ref l1, .ref l2, .int l3, .int v1, .int v7] [] N8)) (mK N2 l0 = 4 ∧ CI G d 26 [.ref l0, .ref l1, .ref l2, .int (1 : Int32), .int (-1 : Int32)] N2 (fun v9 N10 => BB G d (some .boolean) P25 Q S25_114_119 119 [.ref l0, .ref l1, .ref l2, .int l3, .int v1, .int v9] [] N10)))))))) : XX G d (some .boolean) P25 Q 68 [.ref l0, .ref l1, .ref l2, .int l3, .int l4, .int l5] [.int s0, .ref s1, .ref s2, .ref s3] M := XX_at _ rfl ⟨⟨h.1, Nat.le_of_ble_eq_true rfl⟩, ⟨Nat.le_of_ble_eq_true rfl, Nat.le_of_ble_eq_true rfl⟩, (match h.2 with | ⟨v1, N2, hc1001, hk1002⟩ => ⟨some (.int v1), N2, hc1001, ⟨hk1002.1, ⟨fun q1003 => (hk1002.2.1 q1003), fun q1003 => ⟨fun q1004 => ((hk1002.2.2 q1003).1 q1004), fun q1004 => ⟨fun q1005 => (((hk1002.2.2 q1003).2 q1004).1 q1005), fun q1005 => ⟨fun q1006 => (XX_at _ rfl ⟨fun q1007 => (XX_at _ rfl ⟨⟨(((((hk1002.2.2 q1003).2 q1004).2 q1005).1 q1006).1 q1007).1, Nat.le_of_ble_eq_true rfl⟩, ⟨Nat.le_of_ble_eq_true rfl, Nat.le_of_ble_eq_true rfl⟩, (match (((((hk1002.2.2 q1003).2 q1004).2 q1005).1 q1006).1 q1007).2 with | ⟨v3, N4, hc1008, hk1009⟩ => ⟨some (.int v3), N4, hc1008, hk1009⟩)⟩), fun q1007 => (XX_at _ rfl ⟨⟨(((((hk1002.2.2 q1003).2 q1004).2 q1005).1 q1006).2 q1007).1, Nat.le_of_ble_eq_true rfl⟩, ⟨Nat.le_of_ble_eq_true rfl, Nat.le_of_ble_eq_true rfl⟩, (match (((((hk1002.2.2 q1003).2 q1004).2 q1005).1 q1006).2 q1007).2 with | ⟨v5, N6, hc1010, hk1011⟩ => ⟨some (.int v5), N6, hc1010, hk1011⟩)⟩)⟩), fun q1006 => (XX_at _ rfl ⟨fun q1012 => (XX_at _ rfl ⟨⟨(((((hk1002.2.2 q1003).2 q1004).2 q1005).2 q1006).1 q1012).1, Nat.le_of_ble_eq_true rfl⟩, ⟨Nat.le_of_ble_eq_true rfl, Nat.le_of_ble_eq_true rfl⟩, (match (((((hk1002.2.2 q1003).2 q1004).2 q1005).2 q1006).1 q1012).2 with | ⟨v7, N8, hc1013, hk1014⟩ => ⟨some (.int v7), N8, hc1013, hk1014⟩)⟩), fun q1012 => (XX_at _ rfl ⟨⟨(((((hk1002.2.2 q1003).2 q1004).2 q1005).2 q1006).2 q1012).1, Nat.le_of_ble_eq_true rfl⟩, ⟨Nat.le_of_ble_eq_true rfl, Nat.le_of_ble_eq_true rfl⟩, (match (((((hk1002.2.2 q1003).2 q1004).2 q1005).2 q1006).2 q1012).2 with | ⟨v9, N10, hc1015, hk1016⟩ => ⟨some (.int v9), N10, hc1015, hk1016⟩)⟩)⟩)⟩⟩⟩⟩⟩⟩)⟩
theorem e25 {G : GG} {d : Nat} {P : Int32 → mm_M → Prop} {l0 : Nat} {l1 : Nat} {l2 : Nat} {M : mm_M} (h : mK M l1 = 10 ∧ CI G d 96 [.ref l1, .retAddr 12] M (fun v1 N2 => ifP (¬ v1 = (-1 : Int32)) (mK N2 l0 = 4 ∧ mK N2 (mR N2 l0 0) = 2 ∧ ifP ((mI N2 (mR N2 l0 0) 0) < (40 : Int32)) (mK N2 l1 = 10 ∧ CV G d 90 [.ref l1] N2 (fun N4 => BB G d (some .boolean) P25 (QI P) S25_36_43 43 [.ref l0, .ref l1, .ref l2, .int v1, .int (-1 : Int32), jk] [] N4)) (mK N2 l1 = 10 ∧ CI G d 98 [.ref l1, .int (5 : Int32)] N2 (fun v5 N6 => (v5 = 0 ∨ v5 = 1) ∧ P v5 N6))) (mK N2 l1 = 10 ∧ CI G d 98 [.ref l1, .int (1 : Int32)] N2 (fun v7 N8 => (v7 = 0 ∨ v7 = 1) ∧ P v7 N8)))) : CI G (d + 1) 25 [.ref l0, .ref l1, .ref l2] M P := CI_in (nL := 6) (rt := (some .boolean)) (bs := P25) rfl (Nat.le_of_ble_eq_true rfl) (XX_at _ rfl ⟨Nat.le_of_ble_eq_true rfl, ⟨⟨h.1, Nat.le_of_ble_eq_true rfl⟩, ⟨Nat.le_of_ble_eq_true rfl, Nat.le_of_ble_eq_true rfl⟩, (match h.2 with | ⟨v1, N2, hc1001, hk1002⟩ => ⟨some (.int v1), N2, hc1001, ⟨fun q1003 => (XX_at _ rfl ⟨(hk1002.1 q1003).1, ⟨(hk1002.1 q1003).2.1, ⟨fun q1004 => (XX_at _ rfl ⟨⟨((hk1002.1 q1003).2.2.1 q1004).1, Nat.le_of_ble_eq_true rfl⟩, ⟨Nat.le_of_ble_eq_true rfl, Nat.le_of_ble_eq_true rfl⟩, (match ((hk1002.1 q1003).2.2.1 q1004).2 with | ⟨N4, hc1005, hk1006⟩ => ⟨none, N4, hc1005, hk1006⟩)⟩), fun q1004 => ⟨⟨((hk1002.1 q1003).2.2.2 q1004).1, Nat.le_of_ble_eq_true rfl⟩, ⟨Nat.le_of_ble_eq_true rfl, Nat.le_of_ble_eq_true rfl⟩, (match ((hk1002.1 q1003).2.2.2 q1004).2 with | ⟨v5, N6, hc1007, hk1008⟩ => ⟨some (.int v5), N6, hc1007, ⟨nb_ok hk1008.1, ⟨_, rfl, hk1008.2⟩⟩⟩)⟩⟩⟩⟩), fun q1003 => ⟨⟨(hk1002.2 q1003).1, Nat.le_of_ble_eq_true rfl⟩, ⟨Nat.le_of_ble_eq_true rfl, Nat.le_of_ble_eq_true rfl⟩, (match (hk1002.2 q1003).2 with | ⟨v7, N8, hc1009, hk1010⟩ => ⟨some (.int v7), N8, hc1009, ⟨nb_ok hk1010.1, ⟨_, rfl, hk1010.2⟩⟩⟩)⟩⟩⟩)⟩⟩)
/- ShoeOrchard$MorningReader.readNamed(LShoeOrchard$Tape;LShoeOrchard$Plan;ZI)I cuts [] -/
theorem e26 {G : GG} {d : Nat} {P : Int32 → mm_M → Prop} {l0 : Nat} {l1 : Nat} {l2 : Nat} {l3 : Int32} {l4 : Int32} {M : mm_M} (h : mK M l1 = 10 ∧ CI G d 99 [.ref l1] M (fun v1 N2 => ifP (¬ v1 = 0) (ifP (l3 = 0) (mK N2 l1 = 10 ∧ mK N2 l2 = 7 ∧ CI G d 51 [.ref l2, .long (mJ N2 l1 3)] N2 (fun v3 N4 => ifP (¬ v3 = (-1 : Int32)) (ifP (¬ v3 = l4) (mK N4 l1 = 10 ∧ CV G d 90 [.ref l1] N4 (fun N6 => P v3 N6)) (mK N4 l1 = 10 ∧ CI G d 98 [.ref l1, .int (3 : Int32)] N4 (fun v7 N8 => P (-1 : Int32) N8))) (mK N4 l1 = 10 ∧ CI G d 98 [.ref l1, .int (2 : Int32)] N4 (fun v9 N10 => P (-1 : Int32) N10)))) (mK N2 l1 = 10 ∧ mK N2 l2 = 7 ∧ CI G d 52 [.ref l2, .long (mJ N2 l1 3)] N2 (fun v11 N12 => ifP (¬ v11 = (-1 : Int32)) (ifP (¬ v11 = l4) (mK N12 l1 = 10 ∧ CV G d 90 [.ref l1] N12 (fun N14 => P v11 N14)) (mK N12 l1 = 10 ∧ CI G d 98 [.ref l1, .int (3 : Int32)] N12 (fun v15 N16 => P (-1 : Int32) N16))) (mK N12 l1 = 10 ∧ CI G d 98 [.ref l1, .int (2 : Int32)] N12 (fun v17 N18 => P (-1 : Int32) N18))))) (mK N2 l1 = 10 ∧ CI G d 98 [.ref l1, .int (1 : Int32)] N2 (fun v19 N20 => P (-1 : Int32) N20)))) : CI G (d + 1) 26 [.ref l0, .ref l1, .ref l2, .int l3, .int l4] M P := CI_in (nL := 6) (rt := (some .int)) (bs := P26) rfl (Nat.le_of_ble_eq_true rfl) (XX_at _ rfl ⟨⟨h.1, Nat.le_of_ble_eq_true rfl⟩, ⟨Nat.le_of_ble_eq_true rfl, Nat.le_of_ble_eq_true rfl⟩, (match h.2 with | ⟨v1, N2, hc1001, hk1002⟩ => ⟨some (.int v1), N2, hc1001, ⟨fun q1003 => (XX_at _ rfl ⟨fun q1004 => (XX_at _ rfl ⟨((hk1002.1 q1003).1 q1004).1, ⟨⟨((hk1002.1 q1003).1 q1004).2.1, Nat.le_of_ble_eq_true rfl⟩, ⟨Nat.le_of_ble_eq_true rfl, Nat.le_of_ble_eq_true rfl⟩, (match ((hk1002.1 q1003).1 q1004).2.2 with | ⟨v3, N4, hc1005, hk1006⟩ => ⟨some (.int v3), N4, hc1005, ⟨fun q1007 => (XX_at _ rfl ⟨fun q1008 => (XX_at _ rfl ⟨⟨((hk1006.1 q1007).1 q1008).1, Nat.le_of_ble_eq_true rfl⟩, ⟨Nat.le_of_ble_eq_true rfl, Nat.le_of_ble_eq_true rfl⟩, (match ((hk1006.1 q1007).1 q1008).2 with | ⟨N6, hc1009, hk1010⟩ => ⟨none, N6, hc1009, ⟨rfl, ⟨_, rfl, hk1010⟩⟩⟩)⟩), fun q1008 => ⟨⟨((hk1006.1 q1007).2 q1008).1, Nat.le_of_ble_eq_true rfl⟩, ⟨Nat.le_of_ble_eq_true rfl, Nat.le_of_ble_eq_true rfl⟩, (match ((hk1006.1 q1007).2 q1008).2 with | ⟨v7, N8, hc1011, hk1012⟩ => ⟨some (.int v7), N8, hc1011, ⟨rfl, ⟨_, rfl, hk1012⟩⟩⟩)⟩⟩), fun q1007 => ⟨⟨(hk1006.2 q1007).1, Nat.le_of_ble_eq_true rfl⟩, ⟨Nat.le_of_ble_eq_true rfl, Nat.le_of_ble_eq_true rfl⟩, (match (hk1006.2 q1007).2 with | ⟨v9, N10, hc1013, hk1014⟩ => ⟨some (.int v9), N10, hc1013, ⟨rfl, ⟨_, rfl, hk1014⟩⟩⟩)⟩⟩⟩)⟩⟩), fun q1004 => ⟨((hk1002.1 q1003).2 q1004).1, ⟨⟨((hk1002.1 q1003).2 q1004).2.1, Nat.le_of_ble_eq_true rfl⟩, ⟨Nat.le_of_ble_eq_true rfl, Nat.le_of_ble_eq_true rfl⟩, (match ((hk1002.1 q1003).2 q1004).2.2 with | ⟨v11, N12, hc1015, hk1016⟩ => ⟨some (.int v11), N12, hc1015, (XX_at _ rfl ⟨fun q1017 => (XX_at _ rfl ⟨fun q1018 => (XX_at _ rfl ⟨⟨((hk1016.1 q1017).1 q1018).1, Nat.le_of_ble_eq_true rfl⟩, ⟨Nat.le_of_ble_eq_true rfl, Nat.le_of_ble_eq_true rfl⟩, (match ((hk1016.1 q1017).1 q1018).2 with | ⟨N14, hc1019, hk1020⟩ => ⟨none, N14, hc1019, ⟨rfl, ⟨_, rfl, hk1020⟩⟩⟩)⟩), fun q1018 => ⟨⟨((hk1016.1 q1017).2 q1018).1, Nat.le_of_ble_eq_true rfl⟩, ⟨Nat.le_of_ble_eq_true rfl, Nat.le_of_ble_eq_true rfl⟩, (match ((hk1016.1 q1017).2 q1018).2 with | ⟨v15, N16, hc1021, hk1022⟩ => ⟨some (.int v15), N16, hc1021, ⟨rfl, ⟨_, rfl, hk1022⟩⟩⟩)⟩⟩), fun q1017 => ⟨⟨(hk1016.2 q1017).1, Nat.le_of_ble_eq_true rfl⟩, ⟨Nat.le_of_ble_eq_true rfl, Nat.le_of_ble_eq_true rfl⟩, (match (hk1016.2 q1017).2 with | ⟨v17, N18, hc1023, hk1024⟩ => ⟨some (.int v17), N18, hc1023, ⟨rfl, ⟨_, rfl, hk1024⟩⟩⟩)⟩⟩)⟩)⟩⟩⟩), fun q1003 => ⟨⟨(hk1002.2 q1003).1, Nat.le_of_ble_eq_true rfl⟩, ⟨Nat.le_of_ble_eq_true rfl, Nat.le_of_ble_eq_true rfl⟩, (match (hk1002.2 q1003).2 with | ⟨v19, N20, hc1025, hk1026⟩ => ⟨some (.int v19), N20, hc1025, ⟨rfl, ⟨_, rfl, hk1026⟩⟩⟩)⟩⟩⟩)⟩)
end
section
/- ShoeOrchard$OrchardReader.<init>()V cuts [] -/
theorem e27 {G : GG} {d : Nat} {P : mm_M → Prop} {l0 : Nat} {M : mm_M} (h : l0 ≠ 0 ∧ (mS M) ≠ 0 ∧ CV G d 49 [.ref (mS M)] (nw M 7 0 14) (fun N2 => (mK N2 l0 = 5 ∧ (mS M) ≠ 0) ∧ P (sR N2 l0 0 (mS M)))) : CV G (d + 1) 27 [.ref l0] M P := CV_in (nL := 1) (rt := none) (bs := P27) rfl (Nat.le_of_ble_eq_true rfl) (XX_at _ rfl ⟨⟨h.1, Nat.le_of_ble_eq_true rfl⟩, ⟨Nat.le_of_ble_eq_true rfl, ⟨h.2.1, ⟨Nat.le_of_ble_eq_true rfl, Nat.le_of_ble_eq_true rfl⟩, (match h.2.2 with | ⟨N2, hc1001, hk1002⟩ => ⟨none, N2, hc1001, ⟨⟨hk1002.1.1, rfl, hk1002.1.2⟩, ⟨rfl, hk1002.2⟩⟩⟩)⟩⟩⟩)
/- ShoeOrchard$OrchardReader.read(LShoeOrchard$Tape;)I cuts [18] -/
theorem x28_18 {G : GG} {d : Nat} {Q : Option Value → mm_M → Prop} {l0 : Nat} {l1 : Nat} {l2 : Int32} {M : mm_M} (h : ifP ((1000 : Int32) ≤ l2) (Q (some (.int (0 : Int32))) M) (mK M l1 = 10 ∧ ifP ((mI M l1 1) = 0) (Q (some (.int (0 : Int32))) M) (mK M l0 = 5 ∧ CI G d 29 [.ref l0, .ref l1] M (fun v1 N2 => ifP (v1 = 0) (mK N2 l1 = 10 ∧ Q (some (.int (mI N2 l1 4))) N2) (mK N2 l1 = 10 ∧ CI G d 105 [.ref l1, .int (59 : Int32)] N2 (fun v3 N4 => ifP (¬ v3 = 0) (XX G d (some .int) P28 Q 18 [.ref l0, .ref l1, .int (l2 + (1 : Int32))] [] N4) (mK N4 l1 = 10 ∧ Q (some (.int (mI N4 l1 4))) N4))))))) : XX G d (some .int) P28 Q 18 [.ref l0, .ref l1, .int l2] [] M := XX_at _ rfl ⟨fun q1001 => (XX_at _ rfl ⟨rfl, (h.1 q1001)⟩), fun q1001 => ⟨(h.2 q1001).1, ⟨fun q1002 => (XX_at _ rfl ⟨rfl, ((h.2 q1001).2.1 q1002)⟩), fun q1002 => ⟨⟨((h.2 q1001).2.2 q1002).1, Nat.le_of_ble_eq_true rfl⟩, ⟨Nat.le_of_ble_eq_true rfl, Nat.le_of_ble_eq_true rfl⟩, (match ((h.2 q1001).2.2 q1002).2 with | ⟨v1, N2, hc1003, hk1004⟩ => ⟨some (.int v1), N2, hc1003, ⟨fun q1005 => (XX_at _ rfl ⟨(hk1004.1 q1005).1, ⟨rfl, (hk1004.1 q1005).2⟩⟩), fun q1005 => ⟨⟨(hk1004.2 q1005).1, Nat.le_of_ble_eq_true rfl⟩, ⟨Nat.le_of_ble_eq_true rfl, Nat.le_of_ble_eq_true rfl⟩, (match (hk1004.2 q1005).2 with | ⟨v3, N4, hc1006, hk1007⟩ => ⟨some (.int v3), N4, hc1006, ⟨fun q1008 => (XX_at _ rfl (hk1007.1 q1008)), fun q1008 => ⟨(hk1007.2 q1008).1, ⟨rfl, (hk1007.2 q1008).2⟩⟩⟩⟩)⟩⟩⟩)⟩⟩⟩⟩
theorem e28 {G : GG} {d : Nat} {P : Int32 → mm_M → Prop} {l0 : Nat} {l1 : Nat} {M : mm_M} (h : mK M l0 = 5 ∧ mK M (mR M l0 0) = 7 ∧ CV G d 50 [.ref (mR M l0 0)] M (fun N2 => mK N2 l0 = 5 ∧ mK (sI N2 l0 1 (0 : Int32)) l1 = 10 ∧ CV G d 89 [.ref l1] (sI N2 l0 1 (0 : Int32)) (fun N4 => XX G d (some .int) P28 (QI P) 18 [.ref l0, .ref l1, .int (0 : Int32)] [] N4))) : CI G (d + 1) 28 [.ref l0, .ref l1] M P := CI_in (nL := 3) (rt := (some .int)) (bs := P28) rfl (Nat.le_of_ble_eq_true rfl) (XX_at _ rfl ⟨h.1, ⟨⟨h.2.1, Nat.le_of_ble_eq_true rfl⟩, ⟨Nat.le_of_ble_eq_true rfl, Nat.le_of_ble_eq_true rfl⟩, (match h.2.2 with | ⟨N2, hc1001, hk1002⟩ => ⟨none, N2, hc1001, ⟨hk1002.1, ⟨⟨hk1002.2.1, Nat.le_of_ble_eq_true rfl⟩, ⟨Nat.le_of_ble_eq_true rfl, Nat.le_of_ble_eq_true rfl⟩, (match hk1002.2.2 with | ⟨N4, hc1003, hk1004⟩ => ⟨none, N4, hc1003, hk1004⟩)⟩⟩⟩)⟩⟩)
/- ShoeOrchard$OrchardReader.readLine(LShoeOrchard$Tape;)Z cuts [60, 129] -/
theorem x29_129 {G : GG} {d : Nat} {Q : Option Value → mm_M → Prop} {l0 : Nat} {l1 : Nat} {l2 : Int32} {M : mm_M} (h : mK M l0 = 5 ∧ CI G d 33 [.ref l0, .ref l1, .int l2] M (fun v1 N2 => ifP (v1 = 0) (Q (some (.int (0 : Int32))) N2) (mK N2 l0 = 5 ∧ CI G d 37 [.ref l0, .ref l1, .int (0 : Int32)] N2 (fun v3 N4 => ifP (v3 = 0) (Q (some (.int (0 : Int32))) N4) (Q (some (.int (1 : Int32))) N4))))) : XX G d (some .boolean) P29 Q 129 [.ref l0, .ref l1, .int l2] [] M := XX_at _ rfl ⟨⟨h.1, Nat.le_of_ble_eq_true rfl⟩, ⟨Nat.le_of_ble_eq_true rfl, Nat.le_of_ble_eq_true rfl⟩, (match h.2 with | ⟨v1, N2, hc1001, hk1002⟩ => ⟨some (.int v1), N2, hc1001, ⟨fun q1003 => (XX_at _ rfl ⟨rfl, (hk1002.1 q1003)⟩), fun q1003 => ⟨⟨(hk1002.2 q1003).1, Nat.le_of_ble_eq_true rfl⟩, ⟨Nat.le_of_ble_eq_true rfl, Nat.le_of_ble_eq_true rfl⟩, (match (hk1002.2 q1003).2 with | ⟨v3, N4, hc1004, hk1005⟩ => ⟨some (.int v3), N4, hc1004, ⟨fun q1006 => (XX_at _ rfl ⟨rfl, (hk1005.1 q1006)⟩), fun q1006 => (XX_at _ rfl ⟨rfl, (hk1005.2 q1006)⟩)⟩⟩)⟩⟩⟩)⟩
theorem x29_60 {G : GG} {d : Nat} {Q : Option Value → mm_M → Prop} {l0 : Nat} {l1 : Nat} {l2 : Int32} {M : mm_M} (h : mK M l0 = 5 ∧ CI G d 33 [.ref l0, .ref l1, .int l2] M (fun v1 N2 => ifP (v1 = 0) (Q (some (.int (0 : Int32))) N2) (mK N2 l0 = 5 ∧ CI G d 34 [.ref l0, .ref l1] N2 (fun v3 N4 => ifP (v3 = 0) (Q (some (.int (0 : Int32))) N4) (Q (some (.int (1 : Int32))) N4))))) : XX G d (some .boolean) P29 Q 60 [.ref l0, .ref l1, .int l2] [] M := XX_at _ rfl ⟨⟨h.1, Nat.le_of_ble_eq_true rfl⟩, ⟨Nat.le_of_ble_eq_true rfl, Nat.le_of_ble_eq_true rfl⟩, (match h.2 with | ⟨v1, N2, hc1001, hk1002⟩ => ⟨some (.int v1), N2, hc1001, ⟨fun q1003 => (XX_at _ rfl ⟨rfl, (hk1002.1 q1003)⟩), fun q1003 => ⟨⟨(hk1002.2 q1003).1, Nat.le_of_ble_eq_true rfl⟩, ⟨Nat.le_of_ble_eq_true rfl, Nat.le_of_ble_eq_true rfl⟩, (match (hk1002.2 q1003).2 with | ⟨v3, N4, hc1004, hk1005⟩ => ⟨some (.int v3), N4, hc1004, ⟨fun q1006 => (XX_at _ rfl ⟨rfl, (hk1005.1 q1006)⟩), fun q1006 => (XX_at _ rfl ⟨rfl, (hk1005.2 q1006)⟩)⟩⟩)⟩⟩⟩)⟩
theorem e29 {G : GG} {d : Nat} {P : Int32 → mm_M → Prop} {l0 : Nat} {l1 : Nat} {M : mm_M} (h : mK M l1 = 10 ∧ CI G d 96 [.ref l1, .retAddr 1] M (fun v1 N2 => ifP (v1 = 0) (mK N2 l0 = 5 ∧ CI G d 30 [.ref l0, .ref l1] N2 (fun v3 N4 => (v3 = 0 ∨ v3 = 1) ∧ P v3 N4)) (ifP (v1 = 1) (mK N2 l0 = 5 ∧ CI G d 32 [.ref l0, .ref l1] N2 (fun v5 N6 => (v5 = 0 ∨ v5 = 1) ∧ P v5 N6)) (ifP (v1 = 2) (XX G d (some .boolean) P29 (QI P) 60 [.ref l0, .ref l1, .int v1] [] N2) (ifP (v1 = 3) (mK N2 l0 = 5 ∧ CI G d 33 [.ref l0, .ref l1, .int v1] N2 (fun v7 N8 => ifP (v7 = 0) (P (0 : Int32) N8) (mK N8 l0 = 5 ∧ CI G d 35 [.ref l0, .ref l1] N8 (fun v9 N10 => ifP (v9 = 0) (P (0 : Int32) N10) (P (1 : Int32) N10))))) (ifP (v1 = 4) (mK N2 l0 = 5 ∧ CI G d 33 [.ref l0, .ref l1, .int v1] N2 (fun v11 N12 => ifP (v11 = 0) (P (0 : Int32) N12) (mK N12 l0 = 5 ∧ CI G d 36 [.ref l0, .ref l1] N12 (fun v13 N14 => ifP (v13 = 0) (P (0 : Int32) N14) (P (1 : Int32) N14))))) (ifP (v1 = 5) (XX G d (some .boolean) P29 (QI P) 129 [.ref l0, .ref l1, .int v1] [] N2) (mK N2 l1 = 10 ∧ CI G d 98 [.ref l1, .int (1 : Int32)] N2 (fun v15 N16 => (v15 = 0 ∨ v15 = 1) ∧ P v15 N16))))))))) : CI G (d + 1) 29 [.ref l0, .ref l1] M P := CI_in (nL := 3) (rt := (some .boolean)) (bs := P29) rfl (Nat.le_of_ble_eq_true rfl) (XX_at _ rfl ⟨Nat.le_of_ble_eq_true rfl, ⟨⟨h.1, Nat.le_of_ble_eq_true rfl⟩, ⟨Nat.le_of_ble_eq_true rfl, Nat.le_of_ble_eq_true rfl⟩, (match h.2 with | ⟨v1, N2, hc1001, hk1002⟩ => ⟨some (.int v1), N2, hc1001, (sw_in rfl (by decide) (by decide) ⟨fun q1003 => (XX_at _ rfl ⟨⟨(hk1002.1 q1003).1, Nat.le_of_ble_eq_true rfl⟩, ⟨Nat.le_of_ble_eq_true rfl, Nat.le_of_ble_eq_true rfl⟩, (match (hk1002.1 q1003).2 with | ⟨v3, N4, hc1004, hk1005⟩ => ⟨some (.int v3), N4, hc1004, ⟨nb_ok hk1005.1, ⟨_, rfl, hk1005.2⟩⟩⟩)⟩), fun q1003 => ⟨fun q1006 => (XX_at _ rfl ⟨⟨((hk1002.2 q1003).1 q1006).1, Nat.le_of_ble_eq_true rfl⟩, ⟨Nat.le_of_ble_eq_true rfl, Nat.le_of_ble_eq_true rfl⟩, (match ((hk1002.2 q1003).1 q1006).2 with | ⟨v5, N6, hc1007, hk1008⟩ => ⟨some (.int v5), N6, hc1007, ⟨nb_ok hk1008.1, ⟨_, rfl, hk1008.2⟩⟩⟩)⟩), fun q1006 => ⟨fun q1009 => (((hk1002.2 q1003).2 q1006).1 q1009), fun q1009 => ⟨fun q1010 => (XX_at _ rfl ⟨⟨((((hk1002.2 q1003).2 q1006).2 q1009).1 q1010).1, Nat.le_of_ble_eq_true rfl⟩, ⟨Nat.le_of_ble_eq_true rfl, Nat.le_of_ble_eq_true rfl⟩, (match ((((hk1002.2 q1003).2 q1006).2 q1009).1 q1010).2 with | ⟨v7, N8, hc1011, hk1012⟩ => ⟨some (.int v7), N8, hc1011, ⟨fun q1013 => (XX_at _ rfl ⟨rfl, ⟨_, rfl, (hk1012.1 q1013)⟩⟩), fun q1013 => ⟨⟨(hk1012.2 q1013).1, Nat.le_of_ble_eq_true rfl⟩, ⟨Nat.le_of_ble_eq_true rfl, Nat.le_of_ble_eq_true rfl⟩, (match (hk1012.2 q1013).2 with | ⟨v9, N10, hc1014, hk1015⟩ => ⟨some (.int v9), N10, hc1014, ⟨fun q1016 => (XX_at _ rfl ⟨rfl, ⟨_, rfl, (hk1015.1 q1016)⟩⟩), fun q1016 => (XX_at _ rfl ⟨rfl, ⟨_, rfl, (hk1015.2 q1016)⟩⟩)⟩⟩)⟩⟩⟩)⟩), fun q1010 => ⟨fun q1017 => (XX_at _ rfl ⟨⟨(((((hk1002.2 q1003).2 q1006).2 q1009).2 q1010).1 q1017).1, Nat.le_of_ble_eq_true rfl⟩, ⟨Nat.le_of_ble_eq_true rfl, Nat.le_of_ble_eq_true rfl⟩, (match (((((hk1002.2 q1003).2 q1006).2 q1009).2 q1010).1 q1017).2 with | ⟨v11, N12, hc1018, hk1019⟩ => ⟨some (.int v11), N12, hc1018, ⟨fun q1020 => (XX_at _ rfl ⟨rfl, ⟨_, rfl, (hk1019.1 q1020)⟩⟩), fun q1020 => ⟨⟨(hk1019.2 q1020).1, Nat.le_of_ble_eq_true rfl⟩, ⟨Nat.le_of_ble_eq_true rfl, Nat.le_of_ble_eq_true rfl⟩, (match (hk1019.2 q1020).2 with | ⟨v13, N14, hc1021, hk1022⟩ => ⟨some (.int v13), N14, hc1021, ⟨fun q1023 => (XX_at _ rfl ⟨rfl, ⟨_, rfl, (hk1022.1 q1023)⟩⟩), fun q1023 => (XX_at _ rfl ⟨rfl, ⟨_, rfl, (hk1022.2 q1023)⟩⟩)⟩⟩)⟩⟩⟩)⟩), fun q1017 => ⟨fun q1024 => ((((((hk1002.2 q1003).2 q1006).2 q1009).2 q1010).2 q1017).1 q1024), fun q1024 => (XX_at _ rfl ⟨⟨((((((hk1002.2 q1003).2 q1006).2 q1009).2 q1010).2 q1017).2 q1024).1, Nat.le_of_ble_eq_true rfl⟩, ⟨Nat.le_of_ble_eq_true rfl, Nat.le_of_ble_eq_true rfl⟩, (match ((((((hk1002.2 q1003).2 q1006).2 q1009).2 q1010).2 q1017).2 q1024).2 with | ⟨v15, N16, hc1025, hk1026⟩ => ⟨some (.int v15), N16, hc1025, ⟨nb_ok hk1026.1, ⟨_, rfl, hk1026.2⟩⟩⟩)⟩)⟩⟩⟩⟩⟩⟩)⟩)⟩⟩)
/- ShoeOrchard$OrchardReader.readTree(LShoeOrchard$Tape;)Z cuts [] -/
def S30_40_53 : List Instr := [.aload_n 1, .invokevirtual 90, .aload_n 0, .getfield 320, .getfield 453, .iload_n 2, .aload_n 1, .ret 3, .invokevirtual 100, .iastore, .aload_n 1, .getfield 644, .ifCond .ne 12, .aload_n 1, .ret 4, .invokevirtual 101, .ifCond .ne 5, .iconst 0, .ireturn]
def S30_124_153 : List Instr := [.aload_n 1, .getfield 644, .ifCond .ne 7, .iconst 1, .goto 4]
theorem b30_124_153 {G : GG} {d : Nat} {Q : Option Value → mm_M → Prop} {l0 : Nat} {l1 : Nat} {l2 : Int32} {M : mm_M} (h : mK M l1 = 10 ∧ ifP (¬ (mI M l1 4) = 0) (Q (some (.int (0 : Int32))) M) (Q (some (.int (1 : Int32))) M)) : BB G d (some .boolean) P30 Q S30_124_153 153 [.ref l0, .ref l1, .int l2] [] M := ⟨h.1, ⟨fun q1001 => (XX_at _ rfl ⟨rfl, (h.2.1 q1001)⟩), fun q1001 => (XX_at _ rfl ⟨rfl, (h.2.2 q1001)⟩)⟩⟩
theorem b30_40_53 {G : GG} {d : Nat} {Q : Option Value → mm_M → Prop} {l0 : Nat} {l1 : Nat} {l2 : Int32} {M : mm_M} (h : mK M l1 = 10 ∧ CV G d 90 [.ref l1] M (fun N2 => mK N2 l0 = 5 ∧ mK N2 (mR N2 l0 0) = 7 ∧ mK N2 l1 = 10 ∧ CI G d 100 [.ref l1, .retAddr 3] N2 (fun v3 N4 => (mK N4 (mR N2 (mR N2 l0 0) 5) = 14 ∧ vp_in l2 (mN N4 (mR N2 (mR N2 l0 0) 5))) ∧ mK (sI N4 (mR N2 (mR N2 l0 0) 5) l2.toNatClampNeg v3) l1 = 10 ∧ ifP (¬ (mI (sI N4 (mR N2 (mR N2 l0 0) 5) l2.toNatClampNeg v3) l1 4) = 0) (Q (some (.int (0 : Int32))) (sI N4 (mR N2 (mR N2 l0 0) 5) l2.toNatClampNeg v3)) (mK (sI N4 (mR N2 (mR N2 l0 0) 5) l2.toNatClampNeg v3) l1 = 10 ∧ CI G d 101 [.ref l1, .retAddr 4] (sI N4 (mR N2 (mR N2 l0 0) 5) l2.toNatClampNeg v3) (fun v5 N6 => ifP (¬ v5 = 0) (mK N6 l0 = 5 ∧ mK N6 (mR N6 l0 0) = 7 ∧ mK N6 l1 = 10 ∧ CI G d 103 [.ref l1, .int (0 : Int32), .int (30 : Int32)] N6 (fun v7 N8 => (mK N8 (mR N6 (mR N6 l0 0) 6) = 14 ∧ vp_in l2 (mN N8 (mR N6 (mR N6 l0 0) 6))) ∧ mK (sI N8 (mR N6 (mR N6 l0 0) 6) l2.toNatClampNeg v7) l1 = 10 ∧ ifP (¬ (mI (sI N8 (mR N6 (mR N6 l0 0) 6) l2.toNatClampNeg v7) l1 4) = 0) (Q (some (.int (0 : Int32))) (sI N8 (mR N6 (mR N6 l0 0) 6) l2.toNatClampNeg v7)) (mK (sI N8 (mR N6 (mR N6 l0 0) 6) l2.toNatClampNeg v7) l1 = 10 ∧ CI G d 101 [.ref l1, .retAddr 5] (sI N8 (mR N6 (mR N6 l0 0) 6) l2.toNatClampNeg v7) (fun v9 N10 => ifP (¬ v9 = 0) (mK N10 l0 = 5 ∧ mK N10 (mR N10 l0 0) = 7 ∧ mK N10 l1 = 10 ∧ CI G d 103 [.ref l1, .int (0 : Int32), .int (20 : Int32)] N10 (fun v11 N12 => (mK N12 (mR N10 (mR N10 l0 0) 7) = 14 ∧ vp_in l2 (mN N12 (mR N10 (mR N10 l0 0) 7))) ∧ mK (sI N12 (mR N10 (mR N10 l0 0) 7) l2.toNatClampNeg v11) l0 = 5 ∧ mK (sI N12 (mR N10 (mR N10 l0 0) 7) l2.toNatClampNeg v11) (mR (sI N12 (mR N10 (mR N10 l0 0) 7) l2.toNatClampNeg v11) l0 0) = 7 ∧ mK (sI N12 (mR N10 (mR N10 l0 0) 7) l2.toNatClampNeg v11) (mR (sI N12 (mR N10 (mR N10 l0 0) 7) l2.toNatClampNeg v11) l0 0) = 7 ∧ BB G d (some .boolean) P30 Q S30_124_153 153 [.ref l0, .ref l1, .int l2] [] (sI (sI N12 (mR N10 (mR N10 l0 0) 7) l2.toNatClampNeg v11) (mR (sI N12 (mR N10 (mR N10 l0 0) 7) l2.toNatClampNeg v11) l0 0) 0 ((mI (sI N12 (mR N10 (mR N10 l0 0) 7) l2.toNatClampNeg v11) (mR (sI N12 (mR N10 (mR N10 l0 0) 7) l2.toNatClampNeg v11) l0 0) 0) + (1 : Int32))))) (Q (some (.int (0 : Int32))) N10))))) (Q (some (.int (0 : Int32))) N6)))))) : BB G d (some .boolean) P30 Q S30_40_53 53 [.ref l0, .ref l1, .int l2] [] M := ⟨⟨h.1, Nat.le_of_ble_eq_true rfl⟩, ⟨Nat.le_of_ble_eq_true rfl, Nat.le_of_ble_eq_true rfl⟩, (match h.2 with | ⟨N2, hc1001, hk1002⟩ => ⟨none, N2, hc1001, ⟨hk1002.1, ⟨hk1002.2.1, ⟨Nat.le_of_ble_eq_true rfl, ⟨⟨hk1002.2.2.1, Nat.le_of_ble_eq_true rfl⟩, ⟨Nat.le_of_ble_eq_true rfl, Nat.le_of_ble_eq_true rfl⟩, (match hk1002.2.2.2 with | ⟨v3, N4, hc1003, hk1004⟩ => ⟨some (.int v3), N4, hc1003, ⟨hk1004.1, ⟨hk1004.2.1, ⟨fun q1005 => (XX_at _ rfl ⟨rfl, (hk1004.2.2.1 q1005)⟩), fun q1005 => ⟨Nat.le_of_ble_eq_true rfl, ⟨⟨(hk1004.2.2.2 q1005).1, Nat.le_of_ble_eq_true rfl⟩, ⟨Nat.le_of_ble_eq_true rfl, Nat.le_of_ble_eq_true rfl⟩, (match (hk1004.2.2.2 q1005).2 with | ⟨v5, N6, hc1006, hk1007⟩ => ⟨some (.int v5), N6, hc1006, ⟨fun q1008 => (XX_at _ rfl ⟨(hk1007.1 q1008).1, ⟨(hk1007.1 q1008).2.1, ⟨⟨(hk1007.1 q1008).2.2.1, Nat.le_of_ble_eq_true rfl⟩, ⟨Nat.le_of_ble_eq_true rfl, Nat.le_of_ble_eq_true rfl⟩, (match (hk1007.1 q1008).2.2.2 with | ⟨v7, N8, hc1009, hk1010⟩ => ⟨some (.int v7), N8, hc1009, ⟨hk1010.1, ⟨hk1010.2.1, ⟨fun q1011 => (XX_at _ rfl ⟨rfl, (hk1010.2.2.1 q1011)⟩), fun q1011 => ⟨Nat.le_of_ble_eq_true rfl, ⟨⟨(hk1010.2.2.2 q1011).1, Nat.le_of_ble_eq_true rfl⟩, ⟨Nat.le_of_ble_eq_true rfl, Nat.le_of_ble_eq_true rfl⟩, (match (hk1010.2.2.2 q1011).2 with | ⟨v9, N10, hc1012, hk1013⟩ => ⟨some (.int v9), N10, hc1012, ⟨fun q1014 => (XX_at _ rfl ⟨(hk1013.1 q1014).1, ⟨(hk1013.1 q1014).2.1, ⟨⟨(hk1013.1 q1014).2.2.1, Nat.le_of_ble_eq_true rfl⟩, ⟨Nat.le_of_ble_eq_true rfl, Nat.le_of_ble_eq_true rfl⟩, (match (hk1013.1 q1014).2.2.2 with | ⟨v11, N12, hc1015, hk1016⟩ => ⟨some (.int v11), N12, hc1015, ⟨hk1016.1, ⟨hk1016.2.1, ⟨hk1016.2.2.1, ⟨hk1016.2.2.2.1, hk1016.2.2.2.2⟩⟩⟩⟩⟩)⟩⟩⟩), fun q1014 => ⟨rfl, (hk1013.2 q1014)⟩⟩⟩)⟩⟩⟩⟩⟩⟩)⟩⟩⟩), fun q1008 => ⟨rfl, (hk1007.2 q1008)⟩⟩⟩)⟩⟩⟩⟩⟩⟩)⟩⟩⟩⟩⟩)⟩
theorem e30 {G : GG} {d : Nat} {P : Int32 → mm_M → Prop} {l0 : Nat} {l1 : Nat} {M : mm_M} (h : mK M l0 = 5 ∧ mK M (mR M l0 0) = 7 ∧ ifP ((mI M (mR M l0 0) 0) < (6 : Int32)) (mK M l1 = 10 ∧ CV G d 90 [.ref l1] M (fun N2 => mK N2 l0 = 5 ∧ mK N2 (mR N2 l0 0) = 7 ∧ mK N2 l0 = 5 ∧ CI G d 31 [.ref l0, .ref l1] N2 (fun v3 N4 => ifP (¬ v3 = 0) (mK N4 l0 = 5 ∧ mK N4 (mR N4 l0 0) = 7 ∧ mK N4 l1 = 10 ∧ (mK N4 (mR N4 (mR N4 l0 0) 8) = 15 ∧ vp_in (mI N2 (mR N2 l0 0) 0) (mN N4 (mR N4 (mR N4 l0 0) 8))) ∧ BB G d (some .boolean) P30 (QI P) S30_40_53 53 [.ref l0, .ref l1, .int (mI N2 (mR N2 l0 0) 0)] [] (sJ N4 (mR N4 (mR N4 l0 0) 8) ((mI N2 (mR N2 l0 0) 0).toNatClampNeg) (mJ N4 l1 3))) (P (0 : Int32) N4)))) (mK M l1 = 10 ∧ CI G d 98 [.ref l1, .int (5 : Int32)] M (fun v5 N6 => (v5 = 0 ∨ v5 = 1) ∧ P v5 N6))) : CI G (d + 1) 30 [.ref l0, .ref l1] M P := CI_in (nL := 3) (rt := (some .boolean)) (bs := P30) rfl (Nat.le_of_ble_eq_true rfl) (XX_at _ rfl ⟨h.1, ⟨h.2.1, ⟨fun q1001 => (XX_at _ rfl ⟨⟨(h.2.2.1 q1001).1, Nat.le_of_ble_eq_true rfl⟩, ⟨Nat.le_of_ble_eq_true rfl, Nat.le_of_ble_eq_true rfl⟩, (match (h.2.2.1 q1001).2 with | ⟨N2, hc1002, hk1003⟩ => ⟨none, N2, hc1002, ⟨hk1003.1, ⟨hk1003.2.1, ⟨⟨hk1003.2.2.1, Nat.le_of_ble_eq_true rfl⟩, ⟨Nat.le_of_ble_eq_true rfl, Nat.le_of_ble_eq_true rfl⟩, (match hk1003.2.2.2 with | ⟨v3, N4, hc1004, hk1005⟩ => ⟨some (.int v3), N4, hc1004, ⟨fun q1006 => (XX_at _ rfl ⟨(hk1005.1 q1006).1, ⟨(hk1005.1 q1006).2.1, ⟨(hk1005.1 q1006).2.2.1, ⟨(hk1005.1 q1006).2.2.2.1, (hk1005.1 q1006).2.2.2.2⟩⟩⟩⟩), fun q1006 => ⟨rfl, ⟨_, rfl, (hk1005.2 q1006)⟩⟩⟩⟩)⟩⟩⟩⟩)⟩), fun q1001 => ⟨⟨(h.2.2.2 q1001).1, Nat.le_of_ble_eq_true rfl⟩, ⟨Nat.le_of_ble_eq_true rfl, Nat.le_of_ble_eq_true rfl⟩, (match (h.2.2.2 q1001).2 with | ⟨v5, N6, hc1007, hk1008⟩ => ⟨some (.int v5), N6, hc1007, ⟨nb_ok hk1008.1, ⟨_, rfl, hk1008.2⟩⟩⟩)⟩⟩⟩⟩)
/- ShoeOrchard$OrchardReader.isNewName(LShoeOrchard$Tape;)Z cuts [] -/
theorem e31 {G : GG} {d : Nat} {P : Int32 → mm_M → Prop} {l0 : Nat} {l1 : Nat} {M : mm_M} (h : mK M l1 = 10 ∧ CI G d 99 [.ref l1] M (fun v1 N2 => ifP (¬ v1 = 0) (mK N2 l0 = 5 ∧ mK N2 l1 = 10 ∧ mK N2 (mR N2 l0 0) = 7 ∧ CI G d 51 [.ref (mR N2 l0 0), .long (mJ N2 l1 3)] N2 (fun v3 N4 => ifP (¬ v3 = (-1 : Int32)) (mK N4 l1 = 10 ∧ CI G d 98 [.ref l1, .int (3 : Int32)] N4 (fun v5 N6 => (v5 = 0 ∨ v5 = 1) ∧ P v5 N6)) (mK N4 l0 = 5 ∧ mK N4 l1 = 10 ∧ mK N4 (mR N4 l0 0) = 7 ∧ CI G d 52 [.ref (mR N4 l0 0), .long (mJ N4 l1 3)] N4 (fun v7 N8 => ifP (v7 = (-1 : Int32)) (P (1 : Int32) N8) (mK N8 l1 = 10 ∧ CI G d 98 [.ref l1, .int (3 : Int32)] N8 (fun v9 N10 => (v9 = 0 ∨ v9 = 1) ∧ P v9 N10)))))) (mK N2 l1 = 10 ∧ CI G d 98 [.ref l1, .int (1 : Int32)] N2 (fun v11 N12 => (v11 = 0 ∨ v11 = 1) ∧ P v11 N12)))) : CI G (d + 1) 31 [.ref l0, .ref l1] M P := CI_in (nL := 2) (rt := (some .boolean)) (bs := P31) rfl (Nat.le_of_ble_eq_true rfl) (XX_at _ rfl ⟨⟨h.1, Nat.le_of_ble_eq_true rfl⟩, ⟨Nat.le_of_ble_eq_true rfl, Nat.le_of_ble_eq_true rfl⟩, (match h.2 with | ⟨v1, N2, hc1001, hk1002⟩ => ⟨some (.int v1), N2, hc1001, ⟨fun q1003 => (XX_at _ rfl ⟨(hk1002.1 q1003).1, ⟨(hk1002.1 q1003).2.1, ⟨⟨(hk1002.1 q1003).2.2.1, Nat.le_of_ble_eq_true rfl⟩, ⟨Nat.le_of_ble_eq_true rfl, Nat.le_of_ble_eq_true rfl⟩, (match (hk1002.1 q1003).2.2.2 with | ⟨v3, N4, hc1004, hk1005⟩ => ⟨some (.int v3), N4, hc1004, ⟨fun q1006 => (XX_at _ rfl ⟨⟨(hk1005.1 q1006).1, Nat.le_of_ble_eq_true rfl⟩, ⟨Nat.le_of_ble_eq_true rfl, Nat.le_of_ble_eq_true rfl⟩, (match (hk1005.1 q1006).2 with | ⟨v5, N6, hc1007, hk1008⟩ => ⟨some (.int v5), N6, hc1007, ⟨nb_ok hk1008.1, ⟨_, rfl, hk1008.2⟩⟩⟩)⟩), fun q1006 => ⟨(hk1005.2 q1006).1, ⟨(hk1005.2 q1006).2.1, ⟨⟨(hk1005.2 q1006).2.2.1, Nat.le_of_ble_eq_true rfl⟩, ⟨Nat.le_of_ble_eq_true rfl, Nat.le_of_ble_eq_true rfl⟩, (match (hk1005.2 q1006).2.2.2 with | ⟨v7, N8, hc1009, hk1010⟩ => ⟨some (.int v7), N8, hc1009, ⟨fun q1011 => (XX_at _ rfl ⟨rfl, ⟨_, rfl, (hk1010.1 q1011)⟩⟩), fun q1011 => ⟨⟨(hk1010.2 q1011).1, Nat.le_of_ble_eq_true rfl⟩, ⟨Nat.le_of_ble_eq_true rfl, Nat.le_of_ble_eq_true rfl⟩, (match (hk1010.2 q1011).2 with | ⟨v9, N10, hc1012, hk1013⟩ => ⟨some (.int v9), N10, hc1012, ⟨nb_ok hk1013.1, ⟨_, rfl, hk1013.2⟩⟩⟩)⟩⟩⟩)⟩⟩⟩⟩⟩)⟩⟩⟩), fun q1003 => ⟨⟨(hk1002.2 q1003).1, Nat.le_of_ble_eq_true rfl⟩, ⟨Nat.le_of_ble_eq_true rfl, Nat.le_of_ble_eq_true rfl⟩, (match (hk1002.2 q1003).2 with | ⟨v11, N12, hc1014, hk1015⟩ => ⟨some (.int v11), N12, hc1014, ⟨nb_ok hk1015.1, ⟨_, rfl, hk1015.2⟩⟩⟩)⟩⟩⟩)⟩)
/- ShoeOrchard$OrchardReader.readPerson(LShoeOrchard$Tape;)Z cuts [] -/
def S32_40_53 : List Instr := [.aload_n 1, .invokevirtual 90, .aload_n 0, .getfield 320, .getfield 457, .iload_n 2, .aload_n 1, .ret 6, .invokevirtual 100, .iastore, .aload_n 1, .getfield 644, .ifCond .ne 12, .aload_n 1, .ret 7, .invokevirtual 101, .ifCond .ne 5, .iconst 0, .ireturn]
def S32_90_119 : List Instr := [.aload_n 1, .getfield 644, .ifCond .ne 7, .iconst 1, .goto 4]
theorem b32_40_53 {G : GG} {d : Nat} {Q : Option Value → mm_M → Prop} {l0 : Nat} {l1 : Nat} {l2 : Int32} {M : mm_M} (h : mK M l1 = 10 ∧ CV G d 90 [.ref l1] M (fun N2 => mK N2 l0 = 5 ∧ mK N2 (mR N2 l0 0) = 7 ∧ mK N2 l1 = 10 ∧ CI G d 100 [.ref l1, .retAddr 6] N2 (fun v3 N4 => (mK N4 (mR N2 (mR N2 l0 0) 9) = 14 ∧ vp_in l2 (mN N4 (mR N2 (mR N2 l0 0) 9))) ∧ mK (sI N4 (mR N2 (mR N2 l0 0) 9) l2.toNatClampNeg v3) l1 = 10 ∧ ifP (¬ (mI (sI N4 (mR N2 (mR N2 l0 0) 9) l2.toNatClampNeg v3) l1 4) = 0) (Q (some (.int (0 : Int32))) (sI N4 (mR N2 (mR N2 l0 0) 9) l2.toNatClampNeg v3)) (mK (sI N4 (mR N2 (mR N2 l0 0) 9) l2.toNatClampNeg v3) l1 = 10 ∧ CI G d 101 [.ref l1, .retAddr 7] (sI N4 (mR N2 (mR N2 l0 0) 9) l2.toNatClampNeg v3) (fun v5 N6 => ifP (¬ v5 = 0) (mK N6 l0 = 5 ∧ mK N6 (mR N6 l0 0) = 7 ∧ mK N6 l1 = 10 ∧ CI G d 103 [.ref l1, .int (0 : Int32), .int (30 : Int32)] N6 (fun v7 N8 => (mK N8 (mR N6 (mR N6 l0 0) 10) = 14 ∧ vp_in l2 (mN N8 (mR N6 (mR N6 l0 0) 10))) ∧ mK (sI N8 (mR N6 (mR N6 l0 0) 10) l2.toNatClampNeg v7) l0 = 5 ∧ mK (sI N8 (mR N6 (mR N6 l0 0) 10) l2.toNatClampNeg v7) (mR (sI N8 (mR N6 (mR N6 l0 0) 10) l2.toNatClampNeg v7) l0 0) = 7 ∧ mK (sI N8 (mR N6 (mR N6 l0 0) 10) l2.toNatClampNeg v7) (mR (sI N8 (mR N6 (mR N6 l0 0) 10) l2.toNatClampNeg v7) l0 0) = 7 ∧ BB G d (some .boolean) P32 Q S32_90_119 119 [.ref l0, .ref l1, .int l2] [] (sI (sI N8 (mR N6 (mR N6 l0 0) 10) l2.toNatClampNeg v7) (mR (sI N8 (mR N6 (mR N6 l0 0) 10) l2.toNatClampNeg v7) l0 0) 1 ((mI (sI N8 (mR N6 (mR N6 l0 0) 10) l2.toNatClampNeg v7) (mR (sI N8 (mR N6 (mR N6 l0 0) 10) l2.toNatClampNeg v7) l0 0) 1) + (1 : Int32))))) (Q (some (.int (0 : Int32))) N6)))))) : BB G d (some .boolean) P32 Q S32_40_53 53 [.ref l0, .ref l1, .int l2] [] M := ⟨⟨h.1, Nat.le_of_ble_eq_true rfl⟩, ⟨Nat.le_of_ble_eq_true rfl, Nat.le_of_ble_eq_true rfl⟩, (match h.2 with | ⟨N2, hc1001, hk1002⟩ => ⟨none, N2, hc1001, ⟨hk1002.1, ⟨hk1002.2.1, ⟨Nat.le_of_ble_eq_true rfl, ⟨⟨hk1002.2.2.1, Nat.le_of_ble_eq_true rfl⟩, ⟨Nat.le_of_ble_eq_true rfl, Nat.le_of_ble_eq_true rfl⟩, (match hk1002.2.2.2 with | ⟨v3, N4, hc1003, hk1004⟩ => ⟨some (.int v3), N4, hc1003, ⟨hk1004.1, ⟨hk1004.2.1, ⟨fun q1005 => (XX_at _ rfl ⟨rfl, (hk1004.2.2.1 q1005)⟩), fun q1005 => ⟨Nat.le_of_ble_eq_true rfl, ⟨⟨(hk1004.2.2.2 q1005).1, Nat.le_of_ble_eq_true rfl⟩, ⟨Nat.le_of_ble_eq_true rfl, Nat.le_of_ble_eq_true rfl⟩, (match (hk1004.2.2.2 q1005).2 with | ⟨v5, N6, hc1006, hk1007⟩ => ⟨some (.int v5), N6, hc1006, ⟨fun q1008 => (XX_at _ rfl ⟨(hk1007.1 q1008).1, ⟨(hk1007.1 q1008).2.1, ⟨⟨(hk1007.1 q1008).2.2.1, Nat.le_of_ble_eq_true rfl⟩, ⟨Nat.le_of_ble_eq_true rfl, Nat.le_of_ble_eq_true rfl⟩, (match (hk1007.1 q1008).2.2.2 with | ⟨v7, N8, hc1009, hk1010⟩ => ⟨some (.int v7), N8, hc1009, ⟨hk1010.1, ⟨hk1010.2.1, ⟨hk1010.2.2.1, ⟨hk1010.2.2.2.1, hk1010.2.2.2.2⟩⟩⟩⟩⟩)⟩⟩⟩), fun q1008 => ⟨rfl, (hk1007.2 q1008)⟩⟩⟩)⟩⟩⟩⟩⟩⟩)⟩⟩⟩⟩⟩)⟩
theorem b32_90_119 {G : GG} {d : Nat} {Q : Option Value → mm_M → Prop} {l0 : Nat} {l1 : Nat} {l2 : Int32} {M : mm_M} (h : mK M l1 = 10 ∧ ifP (¬ (mI M l1 4) = 0) (Q (some (.int (0 : Int32))) M) (Q (some (.int (1 : Int32))) M)) : BB G d (some .boolean) P32 Q S32_90_119 119 [.ref l0, .ref l1, .int l2] [] M := ⟨h.1, ⟨fun q1001 => (XX_at _ rfl ⟨rfl, (h.2.1 q1001)⟩), fun q1001 => (XX_at _ rfl ⟨rfl, (h.2.2 q1001)⟩)⟩⟩
theorem e32 {G : GG} {d : Nat} {P : Int32 → mm_M → Prop} {l0 : Nat} {l1 : Nat} {M : mm_M} (h : mK M l0 = 5 ∧ mK M (mR M l0 0) = 7 ∧ ifP ((mI M (mR M l0 0) 1) < (6 : Int32)) (mK M l1 = 10 ∧ CV G d 90 [.ref l1] M (fun N2 => mK N2 l0 = 5 ∧ mK N2 (mR N2 l0 0) = 7 ∧ mK N2 l0 = 5 ∧ CI G d 31 [.ref l0, .ref l1] N2 (fun v3 N4 => ifP (¬ v3 = 0) (mK N4 l0 = 5 ∧ mK N4 (mR N4 l0 0) = 7 ∧ mK N4 l1 = 10 ∧ (mK N4 (mR N4 (mR N4 l0 0) 11) = 15 ∧ vp_in (mI N2 (mR N2 l0 0) 1) (mN N4 (mR N4 (mR N4 l0 0) 11))) ∧ BB G d (some .boolean) P32 (QI P) S32_40_53 53 [.ref l0, .ref l1, .int (mI N2 (mR N2 l0 0) 1)] [] (sJ N4 (mR N4 (mR N4 l0 0) 11) ((mI N2 (mR N2 l0 0) 1).toNatClampNeg) (mJ N4 l1 3))) (P (0 : Int32) N4)))) (mK M l1 = 10 ∧ CI G d 98 [.ref l1, .int (5 : Int32)] M (fun v5 N6 => (v5 = 0 ∨ v5 = 1) ∧ P v5 N6))) : CI G (d + 1) 32 [.ref l0, .ref l1] M P := CI_in (nL := 3) (rt := (some .boolean)) (bs := P32) rfl (Nat.le_of_ble_eq_true rfl) (XX_at _ rfl ⟨h.1, ⟨h.2.1, ⟨fun q1001 => (XX_at _ rfl ⟨⟨(h.2.2.1 q1001).1, Nat.le_of_ble_eq_true rfl⟩, ⟨Nat.le_of_ble_eq_true rfl, Nat.le_of_ble_eq_true rfl⟩, (match (h.2.2.1 q1001).2 with | ⟨N2, hc1002, hk1003⟩ => ⟨none, N2, hc1002, ⟨hk1003.1, ⟨hk1003.2.1, ⟨⟨hk1003.2.2.1, Nat.le_of_ble_eq_true rfl⟩, ⟨Nat.le_of_ble_eq_true rfl, Nat.le_of_ble_eq_true rfl⟩, (match hk1003.2.2.2 with | ⟨v3, N4, hc1004, hk1005⟩ => ⟨some (.int v3), N4, hc1004, ⟨fun q1006 => (XX_at _ rfl ⟨(hk1005.1 q1006).1, ⟨(hk1005.1 q1006).2.1, ⟨(hk1005.1 q1006).2.2.1, ⟨(hk1005.1 q1006).2.2.2.1, (hk1005.1 q1006).2.2.2.2⟩⟩⟩⟩), fun q1006 => ⟨rfl, ⟨_, rfl, (hk1005.2 q1006)⟩⟩⟩⟩)⟩⟩⟩⟩)⟩), fun q1001 => ⟨⟨(h.2.2.2 q1001).1, Nat.le_of_ble_eq_true rfl⟩, ⟨Nat.le_of_ble_eq_true rfl, Nat.le_of_ble_eq_true rfl⟩, (match (h.2.2.2 q1001).2 with | ⟨v5, N6, hc1007, hk1008⟩ => ⟨some (.int v5), N6, hc1007, ⟨nb_ok hk1008.1, ⟨_, rfl, hk1008.2⟩⟩⟩)⟩⟩⟩⟩)
/- ShoeOrchard$OrchardReader.readOnce(LShoeOrchard$Tape;I)Z cuts [] -/
theorem e33 {G : GG} {d : Nat} {P : Int32 → mm_M → Prop} {l0 : Nat} {l1 : Nat} {l2 : Int32} {M : mm_M} (h : mK M l0 = 5 ∧ ifP ((((mI M l0 1) >>> (l2 &&& 31)) &&& (1 : Int32)) = 0) (mK M l0 = 5 ∧ mK M l0 = 5 ∧ mK (sI M l0 1 ((mI M l0 1) ||| ((1 : Int32) <<< (l2 &&& 31)))) l1 = 10 ∧ CV G d 90 [.ref l1] (sI M l0 1 ((mI M l0 1) ||| ((1 : Int32) <<< (l2 &&& 31)))) (fun N2 => P (1 : Int32) N2)) (mK M l1 = 10 ∧ CI G d 98 [.ref l1, .int (3 : Int32)] M (fun v3 N4 => (v3 = 0 ∨ v3 = 1) ∧ P v3 N4))) : CI G (d + 1) 33 [.ref l0, .ref l1, .int l2] M P := CI_in (nL := 3) (rt := (some .boolean)) (bs := P33) rfl (Nat.le_of_ble_eq_true rfl) (XX_at _ rfl ⟨h.1, ⟨fun q1001 => (XX_at _ rfl ⟨(h.2.1 q1001).1, ⟨(h.2.1 q1001).2.1, ⟨⟨(h.2.1 q1001).2.2.1, Nat.le_of_ble_eq_true rfl⟩, ⟨Nat.le_of_ble_eq_true rfl, Nat.le_of_ble_eq_true rfl⟩, (match (h.2.1 q1001).2.2.2 with | ⟨N2, hc1002, hk1003⟩ => ⟨none, N2, hc1002, ⟨rfl, ⟨_, rfl, hk1003⟩⟩⟩)⟩⟩⟩), fun q1001 => ⟨⟨(h.2.2 q1001).1, Nat.le_of_ble_eq_true rfl⟩, ⟨Nat.le_of_ble_eq_true rfl, Nat.le_of_ble_eq_true rfl⟩, (match (h.2.2 q1001).2 with | ⟨v3, N4, hc1004, hk1005⟩ => ⟨some (.int v3), N4, hc1004, ⟨nb_ok hk1005.1, ⟨_, rfl, hk1005.2⟩⟩⟩)⟩⟩⟩)
/- ShoeOrchard$OrchardReader.readPinch(LShoeOrchard$Tape;)Z cuts [] -/
theorem e34 {G : GG} {d : Nat} {P : Int32 → mm_M → Prop} {l0 : Nat} {l1 : Nat} {M : mm_M} (h : mK M l0 = 5 ∧ mK M l1 = 10 ∧ CI G d 103 [.ref l1, .int (0 : Int32), .int (5 : Int32)] M (fun v1 N2 => mK N2 (mR M l0 0) = 7 ∧ mK (sI N2 (mR M l0 0) 2 v1) l1 = 10 ∧ ifP (¬ (mI (sI N2 (mR M l0 0) 2 v1) l1 4) = 0) (P (0 : Int32) (sI N2 (mR M l0 0) 2 v1)) (P (1 : Int32) (sI N2 (mR M l0 0) 2 v1)))) : CI G (d + 1) 34 [.ref l0, .ref l1] M P := CI_in (nL := 2) (rt := (some .boolean)) (bs := P34) rfl (Nat.le_of_ble_eq_true rfl) (XX_at _ rfl ⟨h.1, ⟨⟨h.2.1, Nat.le_of_ble_eq_true rfl⟩, ⟨Nat.le_of_ble_eq_true rfl, Nat.le_of_ble_eq_true rfl⟩, (match h.2.2 with | ⟨v1, N2, hc1001, hk1002⟩ => ⟨some (.int v1), N2, hc1001, ⟨hk1002.1, ⟨hk1002.2.1, ⟨fun q1003 => (XX_at _ rfl ⟨rfl, ⟨_, rfl, (hk1002.2.2.1 q1003)⟩⟩), fun q1003 => (XX_at _ rfl ⟨rfl, ⟨_, rfl, (hk1002.2.2.2 q1003)⟩⟩)⟩⟩⟩⟩)⟩⟩)
/- ShoeOrchard$OrchardReader.readNoon(LShoeOrchard$Tape;)Z cuts [] -/
theorem e35 {G : GG} {d : Nat} {P : Int32 → mm_M → Prop} {l0 : Nat} {l1 : Nat} {M : mm_M} (h : mK M l0 = 5 ∧ mK M l1 = 10 ∧ CI G d 103 [.ref l1, .int (1 : Int32), .int (6 : Int32)] M (fun v1 N2 => mK N2 (mR M l0 0) = 7 ∧ mK (sI N2 (mR M l0 0) 3 v1) l1 = 10 ∧ ifP (¬ (mI (sI N2 (mR M l0 0) 3 v1) l1 4) = 0) (P (0 : Int32) (sI N2 (mR M l0 0) 3 v1)) (P (1 : Int32) (sI N2 (mR M l0 0) 3 v1)))) : CI G (d + 1) 35 [.ref l0, .ref l1] M P := CI_in (nL := 2) (rt := (some .boolean)) (bs := P35) rfl (Nat.le_of_ble_eq_true rfl) (XX_at _ rfl ⟨h.1, ⟨⟨h.2.1, Nat.le_of_ble_eq_true rfl⟩, ⟨Nat.le_of_ble_eq_true rfl, Nat.le_of_ble_eq_true rfl⟩, (match h.2.2 with | ⟨v1, N2, hc1001, hk1002⟩ => ⟨some (.int v1), N2, hc1001, ⟨hk1002.1, ⟨hk1002.2.1, ⟨fun q1003 => (XX_at _ rfl ⟨rfl, ⟨_, rfl, (hk1002.2.2.1 q1003)⟩⟩), fun q1003 => (XX_at _ rfl ⟨rfl, ⟨_, rfl, (hk1002.2.2.2 q1003)⟩⟩)⟩⟩⟩⟩)⟩⟩)
/- ShoeOrchard$OrchardReader.readFrosts(LShoeOrchard$Tape;)Z cuts [2] -/
def S36_22_42 : List Instr := [.aload_n 1, .getfield 641, .iconst 2, .if_icmp .eq 5, .iconst 1, .ireturn]
theorem b36_22_42 {G : GG} {d : Nat} {Q : Option Value → mm_M → Prop} {l0 : Nat} {l1 : Nat} {l2 : Int32} {l3 : Int32} {M : mm_M} (h : mK M l1 = 10 ∧ ifP ((mI M l1 1) = (2 : Int32)) (XX G d (some .boolean) P36 Q 2 [.ref l0, .ref l1, .int (l2 + (1 : Int32)), jk] [] M) (Q (some (.int (1 : Int32))) M)) : BB G d (some .boolean) P36 Q S36_22_42 42 [.ref l0, .ref l1, .int l2, .int l3] [] M := ⟨h.1, ⟨fun q1001 => (XX_at _ rfl (XX_lw (h.2.1 q1001) ⟨Or.inl rfl, Or.inl rfl, Or.inl rfl, Or.inr rfl, trivial⟩)), fun q1001 => ⟨rfl, (h.2.2 q1001)⟩⟩⟩
theorem x36_2 {G : GG} {d : Nat} {Q : Option Value → mm_M → Prop} {l0 : Nat} {l1 : Nat} {l2 : Int32} {M : mm_M} (h : ifP ((12 : Int32) ≤ l2) (mK M l1 = 10 ∧ ifP ((mI M l1 2) ≤ (3 : Int32)) (mK M l1 = 10 ∧ CI G d 98 [.ref l1, .int (5 : Int32)] M (fun v1 N2 => (v1 = 0 ∨ v1 = 1) ∧ Q (some (.int v1)) N2)) (mK M l1 = 10 ∧ CI G d 98 [.ref l1, .int (4 : Int32)] M (fun v3 N4 => (v3 = 0 ∨ v3 = 1) ∧ Q (some (.int v3)) N4))) (mK M l1 = 10 ∧ CI G d 103 [.ref l1, .int (0 : Int32), .int (3 : Int32)] M (fun v5 N6 => ifP (¬ v5 = (-1 : Int32)) (mK N6 l0 = 5 ∧ mK N6 (mR N6 l0 0) = 7 ∧ (mK N6 (mR N6 (mR N6 l0 0) 12) = 14 ∧ vp_in l2 (mN N6 (mR N6 (mR N6 l0 0) 12))) ∧ mK (sI N6 (mR N6 (mR N6 l0 0) 12) l2.toNatClampNeg v5) l0 = 5 ∧ mK (sI N6 (mR N6 (mR N6 l0 0) 12) l2.toNatClampNeg v5) (mR (sI N6 (mR N6 (mR N6 l0 0) 12) l2.toNatClampNeg v5) l0 0) = 7 ∧ BB G d (some .boolean) P36 Q S36_22_42 42 [.ref l0, .ref l1, .int l2, .int v5] [] (sI (sI N6 (mR N6 (mR N6 l0 0) 12) l2.toNatClampNeg v5) (mR (sI N6 (mR N6 (mR N6 l0 0) 12) l2.toNatClampNeg v5) l0 0) 4 (l2 + (1 : Int32)))) (Q (some (.int (0 : Int32))) N6)))) : XX G d (some .boolean) P36 Q 2 [.ref l0, .ref l1, .int l2, jk] [] M := XX_at _ rfl ⟨fun q1001 => (XX_at _ rfl ⟨(h.1 q1001).1, ⟨fun q1002 => (XX_at _ rfl ⟨⟨((h.1 q1001).2.1 q1002).1, Nat.le_of_ble_eq_true rfl⟩, ⟨Nat.le_of_ble_eq_true rfl, Nat.le_of_ble_eq_true rfl⟩, (match ((h.1 q1001).2.1 q1002).2 with | ⟨v1, N2, hc1003, hk1004⟩ => ⟨some (.int v1), N2, hc1003, ⟨nb_ok hk1004.1, hk1004.2⟩⟩)⟩), fun q1002 => (XX_at _ rfl ⟨⟨((h.1 q1001).2.2 q1002).1, Nat.le_of_ble_eq_true rfl⟩, ⟨Nat.le_of_ble_eq_true rfl, Nat.le_of_ble_eq_true rfl⟩, (match ((h.1 q1001).2.2 q1002).2 with | ⟨v3, N4, hc1005, hk1006⟩ => ⟨some (.int v3), N4, hc1005, ⟨nb_ok hk1006.1, hk1006.2⟩⟩)⟩)⟩⟩), fun q1001 => ⟨⟨(h.2 q1001).1, Nat.le_of_ble_eq_true rfl⟩, ⟨Nat.le_of_ble_eq_true rfl, Nat.le_of_ble_eq_true rfl⟩, (match (h.2 q1001).2 with | ⟨v5, N6, hc1007, hk1008⟩ => ⟨some (.int v5), N6, hc1007, ⟨fun q1009 => (XX_at _ rfl ⟨(hk1008.1 q1009).1, ⟨(hk1008.1 q1009).2.1, ⟨(hk1008.1 q1009).2.2.1, ⟨(hk1008.1 q1009).2.2.2.1, ⟨(hk1008.1 q1009).2.2.2.2.1, (hk1008.1 q1009).2.2.2.2.2⟩⟩⟩⟩⟩), fun q1009 => ⟨rfl, (hk1008.2 q1009)⟩⟩⟩)⟩⟩
theorem e36 {G : GG} {d : Nat} {P : Int32 → mm_M → Prop} {l0 : Nat} {l1 : Nat} {M : mm_M} (h : XX G d (some .boolean) P36 (QI P) 2 [.ref l0, .ref l1, .int (0 : Int32), jk] [] M) : CI G (d + 1) 36 [.ref l0, .ref l1] M P := CI_in (nL := 4) (rt := (some .boolean)) (bs := P36) rfl (Nat.le_of_ble_eq_true rfl) (XX_at _ rfl h)
/- ShoeOrchard$OrchardReader.readE(LShoeOrchard$Tape;I)Z cuts [13, 44] -/
theorem x37_13 {G : GG} {d : Nat} {Q : Option Value → mm_M → Prop} {l0 : Nat} {l1 : Nat} {l2 : Int32} {l3 : Int32} {M : mm_M} (h : ifP ((1000 : Int32) ≤ l3) (Q (some (.int (1 : Int32))) M) (mK M l1 = 10 ∧ CI G d 102 [.ref l1, .retAddr 10] M (fun v1 N2 => ifP (¬ v1 = 0) (XX G d (some .boolean) P37 Q 44 [.ref l0, .ref l1, .int l2, .int l3, .int v1] [] N2) (mK N2 l1 = 10 ∧ CI G d 102 [.ref l1, .retAddr 11] N2 (fun v3 N4 => ifP (¬ v3 = 0) (XX G d (some .boolean) P37 Q 44 [.ref l0, .ref l1, .int l2, .int l3, .int v1] [] N4) (Q (some (.int (1 : Int32))) N4)))))) : XX G d (some .boolean) P37 Q 13 [.ref l0, .ref l1, .int l2, .int l3, jk] [] M := XX_at _ rfl ⟨fun q1001 => (XX_at _ rfl ⟨rfl, (h.1 q1001)⟩), fun q1001 => ⟨Nat.le_of_ble_eq_true rfl, ⟨⟨(h.2 q1001).1, Nat.le_of_ble_eq_true rfl⟩, ⟨Nat.le_of_ble_eq_true rfl, Nat.le_of_ble_eq_true rfl⟩, (match (h.2 q1001).2 with | ⟨v1, N2, hc1002, hk1003⟩ => ⟨some (.int v1), N2, hc1002, ⟨fun q1004 => (hk1003.1 q1004), fun q1004 => ⟨Nat.le_of_ble_eq_true rfl, ⟨⟨(hk1003.2 q1004).1, Nat.le_of_ble_eq_true rfl⟩, ⟨Nat.le_of_ble_eq_true rfl, Nat.le_of_ble_eq_true rfl⟩, (match (hk1003.2 q1004).2 with | ⟨v3, N4, hc1005, hk1006⟩ => ⟨some (.int v3), N4, hc1005, ⟨fun q1007 => (hk1006.1 q1007), fun q1007 => ⟨rfl, (hk1006.2 q1007)⟩⟩⟩)⟩⟩⟩⟩)⟩⟩⟩
theorem x37_44 {G : GG} {d : Nat} {Q : Option Value → mm_M → Prop} {l0 : Nat} {l1 : Nat} {l2 : Int32} {l3 : Int32} {l4 : Int32} {M : mm_M} (h : mK M l1 = 10 ∧ CV G d 90 [.ref l1] M (fun N2 => mK N2 l0 = 5 ∧ CI G d 38 [.ref l0, .ref l1, .int l2] N2 (fun v3 N4 => ifP (¬ v3 = 0) (mK N4 l0 = 5 ∧ mK N4 (mR N4 l0 0) = 7 ∧ ifP (l4 = 0) (mK N4 (mR N4 (mR N4 l0 0) 13) = 1 ∧ CV G d 7 [.ref (mR N4 (mR N4 l0 0) 13), .int ((Int8.ofInt (-3)).toInt32)] N4 (fun N6 => XX G d (some .boolean) P37 Q 13 [.ref l0, .ref l1, .int l2, .int (l3 + (1 : Int32)), jk] [] N6)) (mK N4 (mR N4 (mR N4 l0 0) 13) = 1 ∧ CV G d 7 [.ref (mR N4 (mR N4 l0 0) 13), .int ((Int8.ofInt (-2)).toInt32)] N4 (fun N8 => XX G d (some .boolean) P37 Q 13 [.ref l0, .ref l1, .int l2, .int (l3 + (1 : Int32)), jk] [] N8))) (Q (some (.int (0 : Int32))) N4)))) : XX G d (some .boolean) P37 Q 44 [.ref l0, .ref l1, .int l2, .int l3, .int l4] [] M := XX_at _ rfl ⟨⟨h.1, Nat.le_of_ble_eq_true rfl⟩, ⟨Nat.le_of_ble_eq_true rfl, Nat.le_of_ble_eq_true rfl⟩, (match h.2 with | ⟨N2, hc1001, hk1002⟩ => ⟨none, N2, hc1001, ⟨⟨hk1002.1, Nat.le_of_ble_eq_true rfl⟩, ⟨Nat.le_of_ble_eq_true rfl, Nat.le_of_ble_eq_true rfl⟩, (match hk1002.2 with | ⟨v3, N4, hc1003, hk1004⟩ => ⟨some (.int v3), N4, hc1003, ⟨fun q1005 => (XX_at _ rfl ⟨(hk1004.1 q1005).1, ⟨(hk1004.1 q1005).2.1, ⟨fun q1006 => (XX_at _ rfl ⟨⟨((hk1004.1 q1005).2.2.1 q1006).1, Nat.le_of_ble_eq_true rfl⟩, ⟨Nat.le_of_ble_eq_true rfl, Nat.le_of_ble_eq_true rfl⟩, (match ((hk1004.1 q1005).2.2.1 q1006).2 with | ⟨N6, hc1007, hk1008⟩ => ⟨none, N6, hc1007, (XX_lw hk1008 ⟨Or.inl rfl, Or.inl rfl, Or.inl rfl, Or.inl rfl, Or.inr rfl, trivial⟩)⟩)⟩), fun q1006 => (XX_at _ rfl ⟨⟨((hk1004.1 q1005).2.2.2 q1006).1, Nat.le_of_ble_eq_true rfl⟩, ⟨Nat.le_of_ble_eq_true rfl, Nat.le_of_ble_eq_true rfl⟩, (match ((hk1004.1 q1005).2.2.2 q1006).2 with | ⟨N8, hc1009, hk1010⟩ => ⟨none, N8, hc1009, (XX_lw hk1010 ⟨Or.inl rfl, Or.inl rfl, Or.inl rfl, Or.inl rfl, Or.inr rfl, trivial⟩)⟩)⟩)⟩⟩⟩), fun q1005 => ⟨rfl, (hk1004.2 q1005)⟩⟩⟩)⟩⟩)⟩
theorem e37 {G : GG} {d : Nat} {P : Int32 → mm_M → Prop} {l0 : Nat} {l1 : Nat} {l2 : Int32} {M : mm_M} (h : mK M l0 = 5 ∧ CI G d 38 [.ref l0, .ref l1, .int l2] M (fun v1 N2 => ifP (¬ v1 = 0) (XX G d (some .boolean) P37 (QI P) 13 [.ref l0, .ref l1, .int l2, .int (0 : Int32), jk] [] N2) (P (0 : Int32) N2))) : CI G (d + 1) 37 [.ref l0, .ref l1, .int l2] M P := CI_in (nL := 5) (rt := (some .boolean)) (bs := P37) rfl (Nat.le_of_ble_eq_true rfl) (XX_at _ rfl ⟨⟨h.1, Nat.le_of_ble_eq_true rfl⟩, ⟨Nat.le_of_ble_eq_true rfl, Nat.le_of_ble_eq_true rfl⟩, (match h.2 with | ⟨v1, N2, hc1001, hk1002⟩ => ⟨some (.int v1), N2, hc1001, ⟨fun q1003 => (XX_at _ rfl (hk1002.1 q1003)), fun q1003 => ⟨rfl, ⟨_, rfl, (hk1002.2 q1003)⟩⟩⟩⟩)⟩)
/- ShoeOrchard$OrchardReader.readTest(LShoeOrchard$Tape;I)Z cuts [] -/
theorem e38 {G : GG} {d : Nat} {P : Int32 → mm_M → Prop} {l0 : Nat} {l1 : Nat} {l2 : Int32} {M : mm_M} (h : mK M l0 = 5 ∧ CI G d 39 [.ref l0, .ref l1, .int l2] M (fun v1 N2 => ifP (¬ v1 = 0) (mK N2 l1 = 10 ∧ CI G d 104 [.ref l1, .int (60 : Int32)] N2 (fun v3 N4 => ifP (¬ v3 = 0) (mK N4 l1 = 10 ∧ CV G d 90 [.ref l1] N4 (fun N6 => mK N6 l0 = 5 ∧ CI G d 39 [.ref l0, .ref l1, .int l2] N6 (fun v7 N8 => ifP (¬ v7 = 0) (mK N8 l0 = 5 ∧ mK N8 (mR N8 l0 0) = 7 ∧ ifP (v3 = 0) (mK N8 (mR N8 (mR N8 l0 0) 13) = 1 ∧ CV G d 7 [.ref (mR N8 (mR N8 l0 0) 13), .int ((Int8.ofInt (-5)).toInt32)] N8 (fun N10 => P (1 : Int32) N10)) (mK N8 (mR N8 (mR N8 l0 0) 13) = 1 ∧ CV G d 7 [.ref (mR N8 (mR N8 l0 0) 13), .int ((Int8.ofInt (-4)).toInt32)] N8 (fun N12 => P (1 : Int32) N12))) (P (0 : Int32) N8)))) (mK N4 l1 = 10 ∧ CI G d 104 [.ref l1, .int (61 : Int32)] N4 (fun v13 N14 => ifP (¬ v13 = 0) (mK N14 l1 = 10 ∧ CV G d 90 [.ref l1] N14 (fun N16 => mK N16 l0 = 5 ∧ CI G d 39 [.ref l0, .ref l1, .int l2] N16 (fun v17 N18 => ifP (¬ v17 = 0) (mK N18 l0 = 5 ∧ mK N18 (mR N18 l0 0) = 7 ∧ ifP (v3 = 0) (mK N18 (mR N18 (mR N18 l0 0) 13) = 1 ∧ CV G d 7 [.ref (mR N18 (mR N18 l0 0) 13), .int ((Int8.ofInt (-5)).toInt32)] N18 (fun N20 => P (1 : Int32) N20)) (mK N18 (mR N18 (mR N18 l0 0) 13) = 1 ∧ CV G d 7 [.ref (mR N18 (mR N18 l0 0) 13), .int ((Int8.ofInt (-4)).toInt32)] N18 (fun N22 => P (1 : Int32) N22))) (P (0 : Int32) N18)))) (P (1 : Int32) N14))))) (P (0 : Int32) N2))) : CI G (d + 1) 38 [.ref l0, .ref l1, .int l2] M P := CI_in (nL := 4) (rt := (some .boolean)) (bs := P38) rfl (Nat.le_of_ble_eq_true rfl) (XX_at _ rfl ⟨⟨h.1, Nat.le_of_ble_eq_true rfl⟩, ⟨Nat.le_of_ble_eq_true rfl, Nat.le_of_ble_eq_true rfl⟩, (match h.2 with | ⟨v1, N2, hc1001, hk1002⟩ => ⟨some (.int v1), N2, hc1001, ⟨fun q1003 => (XX_at _ rfl ⟨⟨(hk1002.1 q1003).1, Nat.le_of_ble_eq_true rfl⟩, ⟨Nat.le_of_ble_eq_true rfl, Nat.le_of_ble_eq_true rfl⟩, (match (hk1002.1 q1003).2 with | ⟨v3, N4, hc1004, hk1005⟩ => ⟨some (.int v3), N4, hc1004, ⟨fun q1006 => (XX_at _ rfl ⟨⟨(hk1005.1 q1006).1, Nat.le_of_ble_eq_true rfl⟩, ⟨Nat.le_of_ble_eq_true rfl, Nat.le_of_ble_eq_true rfl⟩, (match (hk1005.1 q1006).2 with | ⟨N6, hc1007, hk1008⟩ => ⟨none, N6, hc1007, ⟨⟨hk1008.1, Nat.le_of_ble_eq_true rfl⟩, ⟨Nat.le_of_ble_eq_true rfl, Nat.le_of_ble_eq_true rfl⟩, (match hk1008.2 with | ⟨v7, N8, hc1009, hk1010⟩ => ⟨some (.int v7), N8, hc1009, ⟨fun q1011 => (XX_at _ rfl ⟨(hk1010.1 q1011).1, ⟨(hk1010.1 q1011).2.1, ⟨fun q1012 => (XX_at _ rfl ⟨⟨((hk1010.1 q1011).2.2.1 q1012).1, Nat.le_of_ble_eq_true rfl⟩, ⟨Nat.le_of_ble_eq_true rfl, Nat.le_of_ble_eq_true rfl⟩, (match ((hk1010.1 q1011).2.2.1 q1012).2 with | ⟨N10, hc1013, hk1014⟩ => ⟨none, N10, hc1013, ⟨rfl, ⟨_, rfl, hk1014⟩⟩⟩)⟩), fun q1012 => (XX_at _ rfl ⟨⟨((hk1010.1 q1011).2.2.2 q1012).1, Nat.le_of_ble_eq_true rfl⟩, ⟨Nat.le_of_ble_eq_true rfl, Nat.le_of_ble_eq_true rfl⟩, (match ((hk1010.1 q1011).2.2.2 q1012).2 with | ⟨N12, hc1015, hk1016⟩ => ⟨none, N12, hc1015, ⟨rfl, ⟨_, rfl, hk1016⟩⟩⟩)⟩)⟩⟩⟩), fun q1011 => ⟨rfl, ⟨_, rfl, (hk1010.2 q1011)⟩⟩⟩⟩)⟩⟩)⟩), fun q1006 => ⟨⟨(hk1005.2 q1006).1, Nat.le_of_ble_eq_true rfl⟩, ⟨Nat.le_of_ble_eq_true rfl, Nat.le_of_ble_eq_true rfl⟩, (match (hk1005.2 q1006).2 with | ⟨v13, N14, hc1017, hk1018⟩ => ⟨some (.int v13), N14, hc1017, ⟨fun q1019 => (XX_at _ rfl ⟨⟨(hk1018.1 q1019).1, Nat.le_of_ble_eq_true rfl⟩, ⟨Nat.le_of_ble_eq_true rfl, Nat.le_of_ble_eq_true rfl⟩, (match (hk1018.1 q1019).2 with | ⟨N16, hc1020, hk1021⟩ => ⟨none, N16, hc1020, ⟨⟨hk1021.1, Nat.le_of_ble_eq_true rfl⟩, ⟨Nat.le_of_ble_eq_true rfl, Nat.le_of_ble_eq_true rfl⟩, (match hk1021.2 with | ⟨v17, N18, hc1022, hk1023⟩ => ⟨some (.int v17), N18, hc1022, ⟨fun q1024 => (XX_at _ rfl ⟨(hk1023.1 q1024).1, ⟨(hk1023.1 q1024).2.1, ⟨fun q1025 => (XX_at _ rfl ⟨⟨((hk1023.1 q1024).2.2.1 q1025).1, Nat.le_of_ble_eq_true rfl⟩, ⟨Nat.le_of_ble_eq_true rfl, Nat.le_of_ble_eq_true rfl⟩, (match ((hk1023.1 q1024).2.2.1 q1025).2 with | ⟨N20, hc1026, hk1027⟩ => ⟨none, N20, hc1026, ⟨rfl, ⟨_, rfl, hk1027⟩⟩⟩)⟩), fun q1025 => (XX_at _ rfl ⟨⟨((hk1023.1 q1024).2.2.2 q1025).1, Nat.le_of_ble_eq_true rfl⟩, ⟨Nat.le_of_ble_eq_true rfl, Nat.le_of_ble_eq_true rfl⟩, (match ((hk1023.1 q1024).2.2.2 q1025).2 with | ⟨N22, hc1028, hk1029⟩ => ⟨none, N22, hc1028, ⟨rfl, ⟨_, rfl, hk1029⟩⟩⟩)⟩)⟩⟩⟩), fun q1024 => ⟨rfl, ⟨_, rfl, (hk1023.2 q1024)⟩⟩⟩⟩)⟩⟩)⟩), fun q1019 => ⟨rfl, ⟨_, rfl, (hk1018.2 q1019)⟩⟩⟩⟩)⟩⟩⟩)⟩), fun q1003 => ⟨rfl, ⟨_, rfl, (hk1002.2 q1003)⟩⟩⟩⟩)⟩)
/- ShoeOrchard$OrchardReader.readSum(LShoeOrchard$Tape;I)Z cuts [13] -/
def S39_76_84 : List Instr := [.goto (-71)]
def S39_78_84 : List Instr := [.goto (-71)]
theorem b39_76_84 {G : GG} {d : Nat} {Q : Option Value → mm_M → Prop} {l0 : Nat} {l1 : Nat} {l2 : Int32} {l3 : Int32} {l4 : Int32} {M : mm_M} (h : XX G d (some .boolean) P39 Q 13 [.ref l0, .ref l1, .int l2, .int l3, jk] [] M) : BB G d (some .boolean) P39 Q S39_76_84 84 [.ref l0, .ref l1, .int l2, .int l3, .int l4] [] M := (XX_lw h ⟨Or.inl rfl, Or.inl rfl, Or.inl rfl, Or.inl rfl, Or.inr rfl, trivial⟩)
theorem b39_78_84 {G : GG} {d : Nat} {Q : Option Value → mm_M → Prop} {l0 : Nat} {l1 : Nat} {l2 : Int32} {l3 : Int32} {l4 : Int32} {M : mm_M} (h : XX G d (some .boolean) P39 Q 13 [.ref l0, .ref l1, .int l2, .int l3, jk] [] M) : BB G d (some .boolean) P39 Q S39_78_84 84 [.ref l0, .ref l1, .int l2, .int l3, .int l4] [] M := (XX_lw h ⟨Or.inl rfl, Or.inl rfl, Or.inl rfl, Or.inl rfl, Or.inr rfl, trivial⟩)
theorem x39_13 {G : GG} {d : Nat} {Q : Option Value → mm_M → Prop} {l0 : Nat} {l1 : Nat} {l2 : Int32} {l3 : Int32} {M : mm_M} (h : ifP ((1000 : Int32) ≤ l3) (Q (some (.int (1 : Int32))) M) (mK M l1 = 10 ∧ CI G d 104 [.ref l1, .int (43 : Int32)] M (fun v1 N2 => ifP (¬ v1 = 0) (mK N2 l1 = 10 ∧ CV G d 90 [.ref l1] N2 (fun N4 => mK N4 l0 = 5 ∧ CI G d 40 [.ref l0, .ref l1, .int l2] N4 (fun v5 N6 => ifP (¬ v5 = 0) (mK N6 l0 = 5 ∧ mK N6 (mR N6 l0 0) = 7 ∧ ifP (v1 = 0) (mK N6 (mR N6 (mR N6 l0 0) 13) = 1 ∧ CV G d 7 [.ref (mR N6 (mR N6 l0 0) 13), .int ((Int8.ofInt (-7)).toInt32)] N6 (fun N8 => BB G d (some .boolean) P39 Q S39_76_84 84 [.ref l0, .ref l1, .int l2, .int (l3 + (1 : Int32)), .int v1] [] N8)) (mK N6 (mR N6 (mR N6 l0 0) 13) = 1 ∧ CV G d 7 [.ref (mR N6 (mR N6 l0 0) 13), .int ((Int8.ofInt (-6)).toInt32)] N6 (fun N10 => BB G d (some .boolean) P39 Q S39_78_84 84 [.ref l0, .ref l1, .int l2, .int (l3 + (1 : Int32)), .int v1] [] N10))) (Q (some (.int (0 : Int32))) N6)))) (mK N2 l1 = 10 ∧ CI G d 104 [.ref l1, .int (45 : Int32)] N2 (fun v11 N12 => ifP (¬ v11 = 0) (mK N12 l1 = 10 ∧ CV G d 90 [.ref l1] N12 (fun N14 => mK N14 l0 = 5 ∧ CI G d 40 [.ref l0, .ref l1, .int l2] N14 (fun v15 N16 => ifP (¬ v15 = 0) (mK N16 l0 = 5 ∧ mK N16 (mR N16 l0 0) = 7 ∧ ifP (v1 = 0) (mK N16 (mR N16 (mR N16 l0 0) 13) = 1 ∧ CV G d 7 [.ref (mR N16 (mR N16 l0 0) 13), .int ((Int8.ofInt (-7)).toInt32)] N16 (fun N18 => BB G d (some .boolean) P39 Q S39_76_84 84 [.ref l0, .ref l1, .int l2, .int (l3 + (1 : Int32)), .int v1] [] N18)) (mK N16 (mR N16 (mR N16 l0 0) 13) = 1 ∧ CV G d 7 [.ref (mR N16 (mR N16 l0 0) 13), .int ((Int8.ofInt (-6)).toInt32)] N16 (fun N20 => BB G d (some .boolean) P39 Q S39_78_84 84 [.ref l0, .ref l1, .int l2, .int (l3 + (1 : Int32)), .int v1] [] N20))) (Q (some (.int (0 : Int32))) N16)))) (Q (some (.int (1 : Int32))) N12)))))) : XX G d (some .boolean) P39 Q 13 [.ref l0, .ref l1, .int l2, .int l3, jk] [] M := XX_at _ rfl ⟨fun q1001 => (XX_at _ rfl ⟨rfl, (h.1 q1001)⟩), fun q1001 => ⟨⟨(h.2 q1001).1, Nat.le_of_ble_eq_true rfl⟩, ⟨Nat.le_of_ble_eq_true rfl, Nat.le_of_ble_eq_true rfl⟩, (match (h.2 q1001).2 with | ⟨v1, N2, hc1002, hk1003⟩ => ⟨some (.int v1), N2, hc1002, ⟨fun q1004 => (XX_at _ rfl ⟨⟨(hk1003.1 q1004).1, Nat.le_of_ble_eq_true rfl⟩, ⟨Nat.le_of_ble_eq_true rfl, Nat.le_of_ble_eq_true rfl⟩, (match (hk1003.1 q1004).2 with | ⟨N4, hc1005, hk1006⟩ => ⟨none, N4, hc1005, ⟨⟨hk1006.1, Nat.le_of_ble_eq_true rfl⟩, ⟨Nat.le_of_ble_eq_true rfl, Nat.le_of_ble_eq_true rfl⟩, (match hk1006.2 with | ⟨v5, N6, hc1007, hk1008⟩ => ⟨some (.int v5), N6, hc1007, ⟨fun q1009 => (XX_at _ rfl ⟨(hk1008.1 q1009).1, ⟨(hk1008.1 q1009).2.1, ⟨fun q1010 => (XX_at _ rfl ⟨⟨((hk1008.1 q1009).2.2.1 q1010).1, Nat.le_of_ble_eq_true rfl⟩, ⟨Nat.le_of_ble_eq_true rfl, Nat.le_of_ble_eq_true rfl⟩, (match ((hk1008.1 q1009).2.2.1 q1010).2 with | ⟨N8, hc1011, hk1012⟩ => ⟨none, N8, hc1011, hk1012⟩)⟩), fun q1010 => (XX_at _ rfl ⟨⟨((hk1008.1 q1009).2.2.2 q1010).1, Nat.le_of_ble_eq_true rfl⟩, ⟨Nat.le_of_ble_eq_true rfl, Nat.le_of_ble_eq_true rfl⟩, (match ((hk1008.1 q1009).2.2.2 q1010).2 with | ⟨N10, hc1013, hk1014⟩ => ⟨none, N10, hc1013, hk1014⟩)⟩)⟩⟩⟩), fun q1009 => ⟨rfl, (hk1008.2 q1009)⟩⟩⟩)⟩⟩)⟩), fun q1004 => ⟨⟨(hk1003.2 q1004).1, Nat.le_of_ble_eq_true rfl⟩, ⟨Nat.le_of_ble_eq_true rfl, Nat.le_of_ble_eq_true rfl⟩, (match (hk1003.2 q1004).2 with | ⟨v11, N12, hc1015, hk1016⟩ => ⟨some (.int v11), N12, hc1015, ⟨fun q1017 => (XX_at _ rfl ⟨⟨(hk1016.1 q1017).1, Nat.le_of_ble_eq_true rfl⟩, ⟨Nat.le_of_ble_eq_true rfl, Nat.le_of_ble_eq_true rfl⟩, (match (hk1016.1 q1017).2 with | ⟨N14, hc1018, hk1019⟩ => ⟨none, N14, hc1018, ⟨⟨hk1019.1, Nat.le_of_ble_eq_true rfl⟩, ⟨Nat.le_of_ble_eq_true rfl, Nat.le_of_ble_eq_true rfl⟩, (match hk1019.2 with | ⟨v15, N16, hc1020, hk1021⟩ => ⟨some (.int v15), N16, hc1020, ⟨fun q1022 => (XX_at _ rfl ⟨(hk1021.1 q1022).1, ⟨(hk1021.1 q1022).2.1, ⟨fun q1023 => (XX_at _ rfl ⟨⟨((hk1021.1 q1022).2.2.1 q1023).1, Nat.le_of_ble_eq_true rfl⟩, ⟨Nat.le_of_ble_eq_true rfl, Nat.le_of_ble_eq_true rfl⟩, (match ((hk1021.1 q1022).2.2.1 q1023).2 with | ⟨N18, hc1024, hk1025⟩ => ⟨none, N18, hc1024, hk1025⟩)⟩), fun q1023 => (XX_at _ rfl ⟨⟨((hk1021.1 q1022).2.2.2 q1023).1, Nat.le_of_ble_eq_true rfl⟩, ⟨Nat.le_of_ble_eq_true rfl, Nat.le_of_ble_eq_true rfl⟩, (match ((hk1021.1 q1022).2.2.2 q1023).2 with | ⟨N20, hc1026, hk1027⟩ => ⟨none, N20, hc1026, hk1027⟩)⟩)⟩⟩⟩), fun q1022 => ⟨rfl, (hk1021.2 q1022)⟩⟩⟩)⟩⟩)⟩), fun q1017 => ⟨rfl, (hk1016.2 q1017)⟩⟩⟩)⟩⟩⟩)⟩⟩
theorem e39 {G : GG} {d : Nat} {P : Int32 → mm_M → Prop} {l0 : Nat} {l1 : Nat} {l2 : Int32} {M : mm_M} (h : mK M l0 = 5 ∧ CI G d 40 [.ref l0, .ref l1, .int l2] M (fun v1 N2 => ifP (¬ v1 = 0) (XX G d (some .boolean) P39 (QI P) 13 [.ref l0, .ref l1, .int l2, .int (0 : Int32), jk] [] N2) (P (0 : Int32) N2))) : CI G (d + 1) 39 [.ref l0, .ref l1, .int l2] M P := CI_in (nL := 5) (rt := (some .boolean)) (bs := P39) rfl (Nat.le_of_ble_eq_true rfl) (XX_at _ rfl ⟨⟨h.1, Nat.le_of_ble_eq_true rfl⟩, ⟨Nat.le_of_ble_eq_true rfl, Nat.le_of_ble_eq_true rfl⟩, (match h.2 with | ⟨v1, N2, hc1001, hk1002⟩ => ⟨some (.int v1), N2, hc1001, ⟨fun q1003 => (XX_at _ rfl (hk1002.1 q1003)), fun q1003 => ⟨rfl, ⟨_, rfl, (hk1002.2 q1003)⟩⟩⟩⟩)⟩)
/- ShoeOrchard$OrchardReader.readProduct(LShoeOrchard$Tape;I)Z cuts [13] -/
theorem x40_13 {G : GG} {d : Nat} {Q : Option Value → mm_M → Prop} {l0 : Nat} {l1 : Nat} {l2 : Int32} {l3 : Int32} {M : mm_M} (h : ifP ((1000 : Int32) ≤ l3) (Q (some (.int (1 : Int32))) M) (mK M l1 = 10 ∧ CI G d 104 [.ref l1, .int (42 : Int32)] M (fun v1 N2 => ifP (¬ v1 = 0) (mK N2 l1 = 10 ∧ CV G d 90 [.ref l1] N2 (fun N4 => mK N4 l0 = 5 ∧ CI G d 41 [.ref l0, .ref l1, .int l2] N4 (fun v5 N6 => ifP (¬ v5 = 0) (mK N6 l0 = 5 ∧ mK N6 (mR N6 l0 0) = 7 ∧ mK N6 (mR N6 (mR N6 l0 0) 13) = 1 ∧ CV G d 7 [.ref (mR N6 (mR N6 l0 0) 13), .int ((Int8.ofInt (-8)).toInt32)] N6 (fun N8 => XX G d (some .boolean) P40 Q 13 [.ref l0, .ref l1, .int l2, .int (l3 + (1 : Int32))] [] N8)) (Q (some (.int (0 : Int32))) N6)))) (Q (some (.int (1 : Int32))) N2)))) : XX G d (some .boolean) P40 Q 13 [.ref l0, .ref l1, .int l2, .int l3] [] M := XX_at _ rfl ⟨fun q1001 => (XX_at _ rfl ⟨rfl, (h.1 q1001)⟩), fun q1001 => ⟨⟨(h.2 q1001).1, Nat.le_of_ble_eq_true rfl⟩, ⟨Nat.le_of_ble_eq_true rfl, Nat.le_of_ble_eq_true rfl⟩, (match (h.2 q1001).2 with | ⟨v1, N2, hc1002, hk1003⟩ => ⟨some (.int v1), N2, hc1002, ⟨fun q1004 => (XX_at _ rfl ⟨⟨(hk1003.1 q1004).1, Nat.le_of_ble_eq_true rfl⟩, ⟨Nat.le_of_ble_eq_true rfl, Nat.le_of_ble_eq_true rfl⟩, (match (hk1003.1 q1004).2 with | ⟨N4, hc1005, hk1006⟩ => ⟨none, N4, hc1005, ⟨⟨hk1006.1, Nat.le_of_ble_eq_true rfl⟩, ⟨Nat.le_of_ble_eq_true rfl, Nat.le_of_ble_eq_true rfl⟩, (match hk1006.2 with | ⟨v5, N6, hc1007, hk1008⟩ => ⟨some (.int v5), N6, hc1007, ⟨fun q1009 => (XX_at _ rfl ⟨(hk1008.1 q1009).1, ⟨(hk1008.1 q1009).2.1, ⟨⟨(hk1008.1 q1009).2.2.1, Nat.le_of_ble_eq_true rfl⟩, ⟨Nat.le_of_ble_eq_true rfl, Nat.le_of_ble_eq_true rfl⟩, (match (hk1008.1 q1009).2.2.2 with | ⟨N8, hc1010, hk1011⟩ => ⟨none, N8, hc1010, hk1011⟩)⟩⟩⟩), fun q1009 => ⟨rfl, (hk1008.2 q1009)⟩⟩⟩)⟩⟩)⟩), fun q1004 => ⟨rfl, (hk1003.2 q1004)⟩⟩⟩)⟩⟩
theorem e40 {G : GG} {d : Nat} {P : Int32 → mm_M → Prop} {l0 : Nat} {l1 : Nat} {l2 : Int32} {M : mm_M} (h : mK M l0 = 5 ∧ CI G d 41 [.ref l0, .ref l1, .int l2] M (fun v1 N2 => ifP (¬ v1 = 0) (XX G d (some .boolean) P40 (QI P) 13 [.ref l0, .ref l1, .int l2, .int (0 : Int32)] [] N2) (P (0 : Int32) N2))) : CI G (d + 1) 40 [.ref l0, .ref l1, .int l2] M P := CI_in (nL := 4) (rt := (some .boolean)) (bs := P40) rfl (Nat.le_of_ble_eq_true rfl) (XX_at _ rfl ⟨⟨h.1, Nat.le_of_ble_eq_true rfl⟩, ⟨Nat.le_of_ble_eq_true rfl, Nat.le_of_ble_eq_true rfl⟩, (match h.2 with | ⟨v1, N2, hc1001, hk1002⟩ => ⟨some (.int v1), N2, hc1001, ⟨fun q1003 => (XX_at _ rfl (hk1002.1 q1003)), fun q1003 => ⟨rfl, ⟨_, rfl, (hk1002.2 q1003)⟩⟩⟩⟩)⟩)
/- ShoeOrchard$OrchardReader.readPart(LShoeOrchard$Tape;I)Z cuts [64] -/
def S41_12_22 : List Instr := [.aload_n 1, .bipush 40, .invokevirtual 104, .istore 5, .aload_n 1, .ret 9, .invokevirtual 96, .istore 6, .iload_n 3, .ifCond .ne 25, .iload 4, .ifCond .ne 20, .iload 5, .ifCond .ne 15, .iload 6, .iconst (-1), .if_icmp .ne 9, .aload_n 1, .iconst 1, .invokevirtual 98, .ireturn]
def S41_12_38 : List Instr := [.iload_n 3, .ifCond .ne 25, .iload 4, .ifCond .ne 20, .iload 5, .ifCond .ne 15, .iload 6, .iconst (-1), .if_icmp .ne 9, .aload_n 1, .iconst 1, .invokevirtual 98, .ireturn]
def S41_13_22 : List Instr := [.aload_n 1, .bipush 40, .invokevirtual 104, .istore 5, .aload_n 1, .ret 9, .invokevirtual 96, .istore 6, .iload_n 3, .ifCond .ne 25, .iload 4, .ifCond .ne 20, .iload 5, .ifCond .ne 15, .iload 6, .iconst (-1), .if_icmp .ne 9, .aload_n 1, .iconst 1, .invokevirtual 98, .ireturn]
def S41_13_38 : List Instr := [.iload_n 3, .ifCond .ne 25, .iload 4, .ifCond .ne 20, .iload 5, .ifCond .ne 15, .iload 6, .iconst (-1), .if_icmp .ne 9, .aload_n 1, .iconst 1, .invokevirtual 98, .ireturn]
def S41_86_93 : List Instr := [.aload_n 1, .invokevirtual 90, .iload 5, .ifCond .eq 29, .aload_n 0, .aload_n 1, .iload_n 2, .iconst 1, .iadd, .invokevirtual 37, .ifCond .eq 16, .aload_n 1, .bipush 41, .invokevirtual 105, .ifCond .eq 7, .iconst 1, .goto 4]
def S41_146_149 : List Instr := [.aload_n 0, .getfield 320, .getfield 461, .iload 7, .invokevirtual 7, .iconst 1, .ireturn]
theorem b41_12_22 {G : GG} {d : Nat} {Q : Option Value → mm_M → Prop} {l0 : Nat} {l1 : Nat} {l2 : Int32} {l3 : Int32} {l4 : Int32} {M : mm_M} (h : mK M l1 = 10 ∧ CI G d 104 [.ref l1, .int (40 : Int32)] M (fun v1 N2 => mK N2 l1 = 10 ∧ CI G d 96 [.ref l1, .retAddr 9] N2 (fun v3 N4 => BB G d (some .boolean) P41 Q S41_12_38 38 [.ref l0, .ref l1, .int l2, .int l3, .int l4, .int v1, .int v3, jk] [] N4))) : BB G d (some .boolean) P41 Q S41_12_22 22 [.ref l0, .ref l1, .int l2, .int l3, .int l4, jk, jk, jk] [] M := ⟨⟨h.1, Nat.le_of_ble_eq_true rfl⟩, ⟨Nat.le_of_ble_eq_true rfl, Nat.le_of_ble_eq_true rfl⟩, (match h.2 with | ⟨v1, N2, hc1001, hk1002⟩ => ⟨some (.int v1), N2, hc1001, ⟨Nat.le_of_ble_eq_true rfl, ⟨⟨hk1002.1, Nat.le_of_ble_eq_true rfl⟩, ⟨Nat.le_of_ble_eq_true rfl, Nat.le_of_ble_eq_true rfl⟩, (match hk1002.2 with | ⟨v3, N4, hc1003, hk1004⟩ => ⟨some (.int v3), N4, hc1003, hk1004⟩)⟩⟩⟩)⟩
theorem b41_12_38 {G : GG} {d : Nat} {Q : Option Value → mm_M → Prop} {l0 : Nat} {l1 : Nat} {l2 : Int32} {l3 : Int32} {l4 : Int32} {l5 : Int32} {l6 : Int32} {M : mm_M} (h : ifP (¬ l3 = 0) (XX G d (some .boolean) P41 Q 64 [.ref l0, .ref l1, .int l2, .int l3, .int l4, .int l5, .int l6, jk] [] M) (ifP (¬ l4 = 0) (XX G d (some .boolean) P41 Q 64 [.ref l0, .ref l1, .int l2, .int l3, .int l4, .int l5, .int l6, jk] [] M) (ifP (¬ l5 = 0) (XX G d (some .boolean) P41 Q 64 [.ref l0, .ref l1, .int l2, .int l3, .int l4, .int l5, .int l6, jk] [] M) (ifP (¬ l6 = (-1 : Int32)) (XX G d (some .boolean) P41 Q 64 [.ref l0, .ref l1, .int l2, .int l3, .int l4, .int l5, .int l6, jk] [] M) (mK M l1 = 10 ∧ CI G d 98 [.ref l1, .int (1 : Int32)] M (fun v1 N2 => (v1 = 0 ∨ v1 = 1) ∧ Q (some (.int v1)) N2)))))) : BB G d (some .boolean) P41 Q S41_12_38 38 [.ref l0, .ref l1, .int l2, .int l3, .int l4, .int l5, .int l6, jk] [] M := ⟨fun q1001 => (h.1 q1001), fun q1001 => ⟨fun q1002 => ((h.2 q1001).1 q1002), fun q1002 => ⟨fun q1003 => (((h.2 q1001).2 q1002).1 q1003), fun q1003 => ⟨fun q1004 => ((((h.2 q1001).2 q1002).2 q1003).1 q1004), fun q1004 => ⟨⟨((((h.2 q1001).2 q1002).2 q1003).2 q1004).1, Nat.le_of_ble_eq_true rfl⟩, ⟨Nat.le_of_ble_eq_true rfl, Nat.le_of_ble_eq_true rfl⟩, (match ((((h.2 q1001).2 q1002).2 q1003).2 q1004).2 with | ⟨v1, N2, hc1005, hk1006⟩ => ⟨some (.int v1), N2, hc1005, ⟨nb_ok hk1006.1, hk1006.2⟩⟩)⟩⟩⟩⟩⟩
theorem b41_13_22 {G : GG} {d : Nat} {Q : Option Value → mm_M → Prop} {l0 : Nat} {l1 : Nat} {l2 : Int32} {l3 : Int32} {l4 : Int32} {M : mm_M} (h : mK M l1 = 10 ∧ CI G d 104 [.ref l1, .int (40 : Int32)] M (fun v1 N2 => mK N2 l1 = 10 ∧ CI G d 96 [.ref l1, .retAddr 9] N2 (fun v3 N4 => BB G d (some .boolean) P41 Q S41_13_38 38 [.ref l0, .ref l1, .int l2, .int l3, .int l4, .int v1, .int v3, jk] [] N4))) : BB G d (some .boolean) P41 Q S41_13_22 22 [.ref l0, .ref l1, .int l2, .int l3, .int l4, jk, jk, jk] [] M := ⟨⟨h.1, Nat.le_of_ble_eq_true rfl⟩, ⟨Nat.le_of_ble_eq_true rfl, Nat.le_of_ble_eq_true rfl⟩, (match h.2 with | ⟨v1, N2, hc1001, hk1002⟩ => ⟨some (.int v1), N2, hc1001, ⟨Nat.le_of_ble_eq_true rfl, ⟨⟨hk1002.1, Nat.le_of_ble_eq_true rfl⟩, ⟨Nat.le_of_ble_eq_true rfl, Nat.le_of_ble_eq_true rfl⟩, (match hk1002.2 with | ⟨v3, N4, hc1003, hk1004⟩ => ⟨some (.int v3), N4, hc1003, hk1004⟩)⟩⟩⟩)⟩
theorem b41_13_38 {G : GG} {d : Nat} {Q : Option Value → mm_M → Prop} {l0 : Nat} {l1 : Nat} {l2 : Int32} {l3 : Int32} {l4 : Int32} {l5 : Int32} {l6 : Int32} {M : mm_M} (h : ifP (¬ l3 = 0) (XX G d (some .boolean) P41 Q 64 [.ref l0, .ref l1, .int l2, .int l3, .int l4, .int l5, .int l6, jk] [] M) (ifP (¬ l4 = 0) (XX G d (some .boolean) P41 Q 64 [.ref l0, .ref l1, .int l2, .int l3, .int l4, .int l5, .int l6, jk] [] M) (ifP (¬ l5 = 0) (XX G d (some .boolean) P41 Q 64 [.ref l0, .ref l1, .int l2, .int l3, .int l4, .int l5, .int l6, jk] [] M) (ifP (¬ l6 = (-1 : Int32)) (XX G d (some .boolean) P41 Q 64 [.ref l0, .ref l1, .int l2, .int l3, .int l4, .int l5, .int l6, jk] [] M) (mK M l1 = 10 ∧ CI G d 98 [.ref l1, .int (1 : Int32)] M (fun v1 N2 => (v1 = 0 ∨ v1 = 1) ∧ Q (some (.int v1)) N2)))))) : BB G d (some .boolean) P41 Q S41_13_38 38 [.ref l0, .ref l1, .int l2, .int l3, .int l4, .int l5, .int l6, jk] [] M := ⟨fun q1001 => (h.1 q1001), fun q1001 => ⟨fun q1002 => ((h.2 q1001).1 q1002), fun q1002 => ⟨fun q1003 => (((h.2 q1001).2 q1002).1 q1003), fun q1003 => ⟨fun q1004 => ((((h.2 q1001).2 q1002).2 q1003).1 q1004), fun q1004 => ⟨⟨((((h.2 q1001).2 q1002).2 q1003).2 q1004).1, Nat.le_of_ble_eq_true rfl⟩, ⟨Nat.le_of_ble_eq_true rfl, Nat.le_of_ble_eq_true rfl⟩, (match ((((h.2 q1001).2 q1002).2 q1003).2 q1004).2 with | ⟨v1, N2, hc1005, hk1006⟩ => ⟨some (.int v1), N2, hc1005, ⟨nb_ok hk1006.1, hk1006.2⟩⟩)⟩⟩⟩⟩⟩
theorem b41_146_149 {G : GG} {d : Nat} {Q : Option Value → mm_M → Prop} {l0 : Nat} {l1 : Nat} {l2 : Int32} {l3 : Int32} {l4 : Int32} {l5 : Int32} {l6 : Int32} {l7 : Int32} {M : mm_M} (h : mK M l0 = 5 ∧ mK M (mR M l0 0) = 7 ∧ mK M (mR M (mR M l0 0) 13) = 1 ∧ CV G d 7 [.ref (mR M (mR M l0 0) 13), .int l7] M (fun N2 => Q (some (.int (1 : Int32))) N2)) : BB G d (some .boolean) P41 Q S41_146_149 149 [.ref l0, .ref l1, .int l2, .int l3, .int l4, .int l5, .int l6, .int l7] [] M := ⟨h.1, ⟨h.2.1, ⟨⟨h.2.2.1, Nat.le_of_ble_eq_true rfl⟩, ⟨Nat.le_of_ble_eq_true rfl, Nat.le_of_ble_eq_true rfl⟩, (match h.2.2.2 with | ⟨N2, hc1001, hk1002⟩ => ⟨none, N2, hc1001, ⟨rfl, hk1002⟩⟩)⟩⟩⟩
theorem b41_86_93 {G : GG} {d : Nat} {Q : Option Value → mm_M → Prop} {l0 : Nat} {l1 : Nat} {l2 : Int32} {l3 : Int32} {l4 : Int32} {l5 : Int32} {l6 : Int32} {l7 : Int32} {M : mm_M} (h : mK M l1 = 10 ∧ CV G d 90 [.ref l1] M (fun N2 => ifP (l5 = 0) (ifP (l4 = 0) (mK N2 l0 = 5 ∧ mK N2 (mR N2 l0 0) = 7 ∧ mK N2 (mR N2 (mR N2 l0 0) 13) = 1 ∧ CV G d 7 [.ref (mR N2 (mR N2 l0 0) 13), .int l7] N2 (fun N4 => Q (some (.int (1 : Int32))) N4)) (mK N2 l0 = 5 ∧ CI G d 41 [.ref l0, .ref l1, .int (l2 + (1 : Int32))] N2 (fun v5 N6 => ifP (¬ v5 = 0) (mK N6 l0 = 5 ∧ mK N6 (mR N6 l0 0) = 7 ∧ mK N6 (mR N6 (mR N6 l0 0) 13) = 1 ∧ CV G d 7 [.ref (mR N6 (mR N6 l0 0) 13), .int (-1 : Int32)] N6 (fun N8 => Q (some (.int (1 : Int32))) N8)) (Q (some (.int (0 : Int32))) N6)))) (mK N2 l0 = 5 ∧ CI G d 37 [.ref l0, .ref l1, .int (l2 + (1 : Int32))] N2 (fun v9 N10 => ifP (v9 = 0) (Q (some (.int (0 : Int32))) N10) (mK N10 l1 = 10 ∧ CI G d 105 [.ref l1, .int (41 : Int32)] N10 (fun v11 N12 => ifP (v11 = 0) (Q (some (.int (0 : Int32))) N12) (Q (some (.int (1 : Int32))) N12))))))) : BB G d (some .boolean) P41 Q S41_86_93 93 [.ref l0, .ref l1, .int l2, .int l3, .int l4, .int l5, .int l6, .int l7] [] M := ⟨⟨h.1, Nat.le_of_ble_eq_true rfl⟩, ⟨Nat.le_of_ble_eq_true rfl, Nat.le_of_ble_eq_true rfl⟩, (match h.2 with | ⟨N2, hc1001, hk1002⟩ => ⟨none, N2, hc1001, ⟨fun q1003 => (XX_at _ rfl ⟨fun q1004 => (XX_at _ rfl ⟨((hk1002.1 q1003).1 q1004).1, ⟨((hk1002.1 q1003).1 q1004).2.1, ⟨⟨((hk1002.1 q1003).1 q1004).2.2.1, Nat.le_of_ble_eq_true rfl⟩, ⟨Nat.le_of_ble_eq_true rfl, Nat.le_of_ble_eq_true rfl⟩, (match ((hk1002.1 q1003).1 q1004).2.2.2 with | ⟨N4, hc1005, hk1006⟩ => ⟨none, N4, hc1005, ⟨rfl, hk1006⟩⟩)⟩⟩⟩), fun q1004 => ⟨⟨((hk1002.1 q1003).2 q1004).1, Nat.le_of_ble_eq_true rfl⟩, ⟨Nat.le_of_ble_eq_true rfl, Nat.le_of_ble_eq_true rfl⟩, (match ((hk1002.1 q1003).2 q1004).2 with | ⟨v5, N6, hc1007, hk1008⟩ => ⟨some (.int v5), N6, hc1007, ⟨fun q1009 => (XX_at _ rfl ⟨(hk1008.1 q1009).1, ⟨(hk1008.1 q1009).2.1, ⟨⟨(hk1008.1 q1009).2.2.1, Nat.le_of_ble_eq_true rfl⟩, ⟨Nat.le_of_ble_eq_true rfl, Nat.le_of_ble_eq_true rfl⟩, (match (hk1008.1 q1009).2.2.2 with | ⟨N8, hc1010, hk1011⟩ => ⟨none, N8, hc1010, ⟨rfl, hk1011⟩⟩)⟩⟩⟩), fun q1009 => ⟨rfl, (hk1008.2 q1009)⟩⟩⟩)⟩⟩), fun q1003 => ⟨⟨(hk1002.2 q1003).1, Nat.le_of_ble_eq_true rfl⟩, ⟨Nat.le_of_ble_eq_true rfl, Nat.le_of_ble_eq_true rfl⟩, (match (hk1002.2 q1003).2 with | ⟨v9, N10, hc1012, hk1013⟩ => ⟨some (.int v9), N10, hc1012, ⟨fun q1014 => (XX_at _ rfl ⟨rfl, (hk1013.1 q1014)⟩), fun q1014 => ⟨⟨(hk1013.2 q1014).1, Nat.le_of_ble_eq_true rfl⟩, ⟨Nat.le_of_ble_eq_true rfl, Nat.le_of_ble_eq_true rfl⟩, (match (hk1013.2 q1014).2 with | ⟨v11, N12, hc1015, hk1016⟩ => ⟨some (.int v11), N12, hc1015, ⟨fun q1017 => (XX_at _ rfl ⟨rfl, (hk1016.1 q1017)⟩), fun q1017 => (XX_at _ rfl ⟨rfl, (hk1016.2 q1017)⟩)⟩⟩)⟩⟩⟩)⟩⟩⟩)⟩
theorem x41_64 {G : GG} {d : Nat} {Q : Option Value → mm_M → Prop} {l0 : Nat} {l1 : Nat} {l2 : Int32} {l3 : Int32} {l4 : Int32} {l5 : Int32} {l6 : Int32} {M : mm_M} (h : ifP (l2 < (5 : Int32)) (ifP (l3 = 0) (BB G d (some .boolean) P41 Q S41_86_93 93 [.ref l0, .ref l1, .int l2, .int l3, .int l4, .int l5, .int l6, .int (((Int8.ofInt (-9)).toInt32) - l6)] [] M) (mK M l1 = 10 ∧ mK M l1 = 10 ∧ CV G d 90 [.ref l1] M (fun N2 => ifP (l5 = 0) (ifP (l4 = 0) (mK N2 l0 = 5 ∧ mK N2 (mR N2 l0 0) = 7 ∧ mK N2 (mR N2 (mR N2 l0 0) 13) = 1 ∧ CV G d 7 [.ref (mR N2 (mR N2 l0 0) 13), .int (mI M l1 2)] N2 (fun N4 => Q (some (.int (1 : Int32))) N4)) (mK N2 l0 = 5 ∧ CI G d 41 [.ref l0, .ref l1, .int (l2 + (1 : Int32))] N2 (fun v5 N6 => ifP (¬ v5 = 0) (BB G d (some .boolean) P41 Q S41_146_149 149 [.ref l0, .ref l1, .int l2, .int l3, .int l4, .int l5, .int l6, .int (-1 : Int32)] [] N6) (Q (some (.int (0 : Int32))) N6)))) (mK N2 l0 = 5 ∧ CI G d 37 [.ref l0, .ref l1, .int (l2 + (1 : Int32))] N2 (fun v7 N8 => ifP (v7 = 0) (Q (some (.int (0 : Int32))) N8) (mK N8 l1 = 10 ∧ CI G d 105 [.ref l1, .int (41 : Int32)] N8 (fun v9 N10 => ifP (v9 = 0) (Q (some (.int (0 : Int32))) N10) (Q (some (.int (1 : Int32))) N10)))))))) (mK M l1 = 10 ∧ CI G d 98 [.ref l1, .int (5 : Int32)] M (fun v11 N12 => (v11 = 0 ∨ v11 = 1) ∧ Q (some (.int v11)) N12))) : XX G d (some .boolean) P41 Q 64 [.ref l0, .ref l1, .int l2, .int l3, .int l4, .int l5, .int l6, jk] [] M := XX_at _ rfl ⟨fun q1001 => (XX_at _ rfl ⟨fun q1002 => (XX_at _ rfl ((h.1 q1001).1 q1002)), fun q1002 => ⟨((h.1 q1001).2 q1002).1, (XX_at _ rfl ⟨⟨((h.1 q1001).2 q1002).2.1, Nat.le_of_ble_eq_true rfl⟩, ⟨Nat.le_of_ble_eq_true rfl, Nat.le_of_ble_eq_true rfl⟩, (match ((h.1 q1001).2 q1002).2.2 with | ⟨N2, hc1003, hk1004⟩ => ⟨none, N2, hc1003, ⟨fun q1005 => (XX_at _ rfl ⟨fun q1006 => (XX_at _ rfl ⟨((hk1004.1 q1005).1 q1006).1, ⟨((hk1004.1 q1005).1 q1006).2.1, ⟨⟨((hk1004.1 q1005).1 q1006).2.2.1, Nat.le_of_ble_eq_true rfl⟩, ⟨Nat.le_of_ble_eq_true rfl, Nat.le_of_ble_eq_true rfl⟩, (match ((hk1004.1 q1005).1 q1006).2.2.2 with | ⟨N4, hc1007, hk1008⟩ => ⟨none, N4, hc1007, ⟨rfl, hk1008⟩⟩)⟩⟩⟩), fun q1006 => ⟨⟨((hk1004.1 q1005).2 q1006).1, Nat.le_of_ble_eq_true rfl⟩, ⟨Nat.le_of_ble_eq_true rfl, Nat.le_of_ble_eq_true rfl⟩, (match ((hk1004.1 q1005).2 q1006).2 with | ⟨v5, N6, hc1009, hk1010⟩ => ⟨some (.int v5), N6, hc1009, ⟨fun q1011 => (XX_at _ rfl (hk1010.1 q1011)), fun q1011 => ⟨rfl, (hk1010.2 q1011)⟩⟩⟩)⟩⟩), fun q1005 => ⟨⟨(hk1004.2 q1005).1, Nat.le_of_ble_eq_true rfl⟩, ⟨Nat.le_of_ble_eq_true rfl, Nat.le_of_ble_eq_true rfl⟩, (match (hk1004.2 q1005).2 with | ⟨v7, N8, hc1012, hk1013⟩ => ⟨some (.int v7), N8, hc1012, ⟨fun q1014 => (XX_at _ rfl ⟨rfl, (hk1013.1 q1014)⟩), fun q1014 => ⟨⟨(hk1013.2 q1014).1, Nat.le_of_ble_eq_true rfl⟩, ⟨Nat.le_of_ble_eq_true rfl, Nat.le_of_ble_eq_true rfl⟩, (match (hk1013.2 q1014).2 with | ⟨v9, N10, hc1015, hk1016⟩ => ⟨some (.int v9), N10, hc1015, ⟨fun q1017 => (XX_at _ rfl ⟨rfl, (hk1016.1 q1017)⟩), fun q1017 => (XX_at _ rfl ⟨rfl, (hk1016.2 q1017)⟩)⟩⟩)⟩⟩⟩)⟩⟩⟩)⟩)⟩⟩), fun q1001 => ⟨⟨(h.2 q1001).1, Nat.le_of_ble_eq_true rfl⟩, ⟨Nat.le_of_ble_eq_true rfl, Nat.le_of_ble_eq_true rfl⟩, (match (h.2 q1001).2 with | ⟨v11, N12, hc1018, hk1019⟩ => ⟨some (.int v11), N12, hc1018, ⟨nb_ok hk1019.1, hk1019.2⟩⟩)⟩⟩
theorem e41 {G : GG} {d : Nat} {P : Int32 → mm_M → Prop} {l0 : Nat} {l1 : Nat} {l2 : Int32} {M : mm_M} (h : mK M l1 = 10 ∧ ifP (¬ (mI M l1 1) = (2 : Int32)) (mK M l1 = 10 ∧ CI G d 102 [.ref l1, .retAddr 8] M (fun v1 N2 => BB G d (some .boolean) P41 (QI P) S41_12_22 22 [.ref l0, .ref l1, .int l2, .int (0 : Int32), .int v1, jk, jk, jk] [] N2)) (mK M l1 = 10 ∧ CI G d 102 [.ref l1, .retAddr 8] M (fun v3 N4 => BB G d (some .boolean) P41 (QI P) S41_13_22 22 [.ref l0, .ref l1, .int l2, .int (1 : Int32), .int v3, jk, jk, jk] [] N4))) : CI G (d + 1) 41 [.ref l0, .ref l1, .int l2] M P := CI_in (nL := 8) (rt := (some .boolean)) (bs := P41) rfl (Nat.le_of_ble_eq_true rfl) (XX_at _ rfl ⟨h.1, ⟨fun q1001 => (XX_at _ rfl ⟨Nat.le_of_ble_eq_true rfl, ⟨⟨(h.2.1 q1001).1, Nat.le_of_ble_eq_true rfl⟩, ⟨Nat.le_of_ble_eq_true rfl, Nat.le_of_ble_eq_true rfl⟩, (match (h.2.1 q1001).2 with | ⟨v1, N2, hc1002, hk1003⟩ => ⟨some (.int v1), N2, hc1002, hk1003⟩)⟩⟩), fun q1001 => (XX_at _ rfl ⟨Nat.le_of_ble_eq_true rfl, ⟨⟨(h.2.2 q1001).1, Nat.le_of_ble_eq_true rfl⟩, ⟨Nat.le_of_ble_eq_true rfl, Nat.le_of_ble_eq_true rfl⟩, (match (h.2.2 q1001).2 with | ⟨v3, N4, hc1004, hk1005⟩ => ⟨some (.int v3), N4, hc1004, hk1005⟩)⟩⟩)⟩⟩)
end
section
/- ShoeOrchard$Past.<init>(LShoeOrchard$Plan;)V cuts [38, 66] -/
def S42_0_21 : List Instr := [.aload_n 0, .iconst 4, .anewarray 17, .putfield 387, .aload_n 0, .iconst 4, .newarray .boolean, .putfield 388, .iconst 0, .istore_n 2]
def S42_0_36 : List Instr := [.iconst 0, .istore_n 2]
def S42_66_98 : List Instr := [.iinc 2 1, .goto (-35)]
theorem b42_0_21 {G : GG} {d : Nat} {Q : Option Value → mm_M → Prop} {l0 : Nat} {l1 : Nat} {M : mm_M} (h : (mK (nw M 17 4 4) l0 = 6 ∧ (mS M) ≠ 0) ∧ (mK (nw (sR (nw M 17 4 4) l0 3 (mS M)) 16 4 4) l0 = 6 ∧ (mS (sR (nw M 17 4 4) l0 3 (mS M))) ≠ 0) ∧ BB G d none P42 Q S42_0_36 36 [.ref l0, .ref l1, jk] [] (sR (nw (sR (nw M 17 4 4) l0 3 (mS M)) 16 4 4) l0 4 (mS (sR (nw M 17 4 4) l0 3 (mS M))))) : BB G d none P42 Q S42_0_21 21 [.ref l0, .ref l1, jk] [] M := ⟨⟨Or.inl rfl, by decide, by decide⟩, ⟨⟨h.1.1, rfl, h.1.2⟩, ⟨⟨by decide, by decide⟩, ⟨⟨h.2.1.1, rfl, h.2.1.2⟩, h.2.2⟩⟩⟩⟩
theorem b42_0_36 {G : GG} {d : Nat} {Q : Option Value → mm_M → Prop} {l0 : Nat} {l1 : Nat} {M : mm_M} (h : XX G d none P42 Q 38 [.ref l0, .ref l1, .int (0 : Int32)] [] M) : BB G d none P42 Q S42_0_36 36 [.ref l0, .ref l1, jk] [] M := h
theorem b42_66_98 {G : GG} {d : Nat} {Q : Option Value → mm_M → Prop} {l0 : Nat} {l1 : Nat} {l2 : Int32} {M : mm_M} (h : XX G d none P42 Q 66 [.ref l0, .ref l1, .int (l2 + (1 : Int32))] [] M) : BB G d none P42 Q S42_66_98 98 [.ref l0, .ref l1, .int l2] [] M := h
theorem x42_38 {G : GG} {d : Nat} {Q : Option Value → mm_M → Prop} {l0 : Nat} {l1 : Nat} {l2 : Int32} {M : mm_M} (h : ifP ((16 : Int32) ≤ l2) (XX G d none P42 Q 66 [.ref l0, .ref l1, .int (0 : Int32)] [] M) (mK M l0 = 6 ∧ (mS M) ≠ 0 ∧ CV G d 67 [.ref (mS M), .ref l1] (nw M 9 0 9) (fun N2 => (mK N2 (mR M l0 1) = 18 ∧ mK N2 (mS M) = 9 ∧ vp_in l2 (mN N2 (mR M l0 1))) ∧ XX G d none P42 Q 38 [.ref l0, .ref l1, .int (l2 + (1 : Int32))] [] (sR N2 (mR M l0 1) l2.toNatClampNeg (mS M))))) : XX G d none P42 Q 38 [.ref l0, .ref l1, .int l2] [] M := XX_at _ rfl ⟨fun q1001 => (XX_at _ rfl (h.1 q1001)), fun q1001 => ⟨(h.2 q1001).1, ⟨Nat.le_of_ble_eq_true rfl, ⟨(h.2 q1001).2.1, ⟨Nat.le_of_ble_eq_true rfl, Nat.le_of_ble_eq_true rfl⟩, (match (h.2 q1001).2.2 with | ⟨N2, hc1002, hk1003⟩ => ⟨none, N2, hc1002, ⟨⟨Or.inr ⟨hk1003.1.1, hk1003.1.2.1⟩, hk1003.1.2.2⟩, hk1003.2⟩⟩)⟩⟩⟩⟩
theorem x42_66 {G : GG} {d : Nat} {Q : Option Value → mm_M → Prop} {l0 : Nat} {l1 : Nat} {l2 : Int32} {M : mm_M} (h : ifP ((4 : Int32) ≤ l2) (Q none M) (mK M l0 = 6 ∧ (mS M) ≠ 0 ∧ CV G d 67 [.ref (mS M), .ref l1] (nw M 9 0 9) (fun N2 => (mK N2 (mR M l0 2) = 18 ∧ mK N2 (mS M) = 9 ∧ vp_in l2 (mN N2 (mR M l0 2))) ∧ mK (sR N2 (mR M l0 2) l2.toNatClampNeg (mS M)) l0 = 6 ∧ (mS (sR N2 (mR M l0 2) l2.toNatClampNeg (mS M))) ≠ 0 ∧ CV G d 0 [.ref (mS (sR N2 (mR M l0 2) l2.toNatClampNeg (mS M)))] (nw (sR N2 (mR M l0 2) l2.toNatClampNeg (mS M)) 0 0 3) (fun N4 => (mK N4 (mR (sR N2 (mR M l0 2) l2.toNatClampNeg (mS M)) l0 3) = 17 ∧ mK N4 (mS (sR N2 (mR M l0 2) l2.toNatClampNeg (mS M))) = 0 ∧ vp_in l2 (mN N4 (mR (sR N2 (mR M l0 2) l2.toNatClampNeg (mS M)) l0 3))) ∧ BB G d none P42 Q S42_66_98 98 [.ref l0, .ref l1, .int l2] [] (sR N4 (mR (sR N2 (mR M l0 2) l2.toNatClampNeg (mS M)) l0 3) l2.toNatClampNeg (mS (sR N2 (mR M l0 2) l2.toNatClampNeg (mS M)))))))) : XX G d none P42 Q 66 [.ref l0, .ref l1, .int l2] [] M := XX_at _ rfl ⟨fun q1001 => (XX_at _ rfl (h.1 q1001)), fun q1001 => ⟨(h.2 q1001).1, ⟨Nat.le_of_ble_eq_true rfl, ⟨(h.2 q1001).2.1, ⟨Nat.le_of_ble_eq_true rfl, Nat.le_of_ble_eq_true rfl⟩, (match (h.2 q1001).2.2 with | ⟨N2, hc1002, hk1003⟩ => ⟨none, N2, hc1002, ⟨⟨Or.inr ⟨hk1003.1.1, hk1003.1.2.1⟩, hk1003.1.2.2⟩, ⟨hk1003.2.1, ⟨Nat.le_of_ble_eq_true rfl, ⟨hk1003.2.2.1, ⟨Nat.le_of_ble_eq_true rfl, Nat.le_of_ble_eq_true rfl⟩, (match hk1003.2.2.2 with | ⟨N4, hc1004, hk1005⟩ => ⟨none, N4, hc1004, ⟨⟨Or.inl ⟨hk1005.1.1, hk1005.1.2.1⟩, hk1005.1.2.2⟩, hk1005.2⟩⟩)⟩⟩⟩⟩⟩)⟩⟩⟩⟩
theorem e42 {G : GG} {d : Nat} {P : mm_M → Prop} {l0 : Nat} {l1 : Nat} {M : mm_M} (h : l0 ≠ 0 ∧ (mK (nw M 18 16 16) l0 = 6 ∧ (mS M) ≠ 0) ∧ (mK (nw (sR (nw M 18 16 16) l0 1 (mS M)) 18 4 4) l0 = 6 ∧ (mS (sR (nw M 18 16 16) l0 1 (mS M))) ≠ 0) ∧ BB G d none P42 (QV P) S42_0_21 21 [.ref l0, .ref l1, jk] [] (sR (nw (sR (nw M 18 16 16) l0 1 (mS M)) 18 4 4) l0 2 (mS (sR (nw M 18 16 16) l0 1 (mS M))))) : CV G (d + 1) 42 [.ref l0, .ref l1] M P := CV_in (nL := 3) (rt := none) (bs := P42) rfl (Nat.le_of_ble_eq_true rfl) (XX_at _ rfl ⟨⟨h.1, Nat.le_of_ble_eq_true rfl⟩, ⟨⟨Or.inr rfl, by decide, by decide⟩, ⟨⟨h.2.1.1, rfl, h.2.1.2⟩, ⟨⟨Or.inr rfl, by decide, by decide⟩, ⟨⟨h.2.2.1.1, rfl, h.2.2.1.2⟩, h.2.2.2⟩⟩⟩⟩⟩)
/- ShoeOrchard$Past.forgetAll()V cuts [7] -/
def S43_7_19 : List Instr := [.iinc 1 1, .goto (-15)]
theorem b43_7_19 {G : GG} {d : Nat} {Q : Option Value → mm_M → Prop} {l0 : Nat} {l1 : Int32} {M : mm_M} (h : XX G d none P43 Q 7 [.ref l0, .int (l1 + (1 : Int32))] [] M) : BB G d none P43 Q S43_7_19 19 [.ref l0, .int l1] [] M := h
theorem x43_7 {G : GG} {d : Nat} {Q : Option Value → mm_M → Prop} {l0 : Nat} {l1 : Int32} {M : mm_M} (h : ifP ((4 : Int32) ≤ l1) (Q none M) (mK M l0 = 6 ∧ (mK M (mR M l0 4) = 16 ∧ vp_in l1 (mN M (mR M l0 4))) ∧ BB G d none P43 Q S43_7_19 19 [.ref l0, .int l1] [] (sI M (mR M l0 4) l1.toNatClampNeg (vp_nar .boolean (0 : Int32))))) : XX G d none P43 Q 7 [.ref l0, .int l1] [] M := XX_at _ rfl ⟨fun q1001 => (XX_at _ rfl (h.1 q1001)), fun q1001 => ⟨(h.2 q1001).1, ⟨(h.2 q1001).2.1, (h.2 q1001).2.2⟩⟩⟩
theorem e43 {G : GG} {d : Nat} {P : mm_M → Prop} {l0 : Nat} {M : mm_M} (h : mK M l0 = 6 ∧ XX G d none P43 (QV P) 7 [.ref l0, .int (0 : Int32)] [] (sI M l0 0 (0 : Int32))) : CV G (d + 1) 43 [.ref l0] M P := CV_in (nL := 2) (rt := none) (bs := P43) rfl (Nat.le_of_ble_eq_true rfl) (XX_at _ rfl ⟨h.1, h.2⟩)
/- ShoeOrchard$Past.keep(LShoeOrchard$State;)V cuts [] -/
theorem e44 {G : GG} {d : Nat} {P : mm_M → Prop} {l0 : Nat} {l1 : Nat} {M : mm_M} (h : mK M l0 = 6 ∧ ifP ((mI M l0 0) < (16 : Int32)) (mK M l0 = 6 ∧ mK M l0 = 6 ∧ (mK M (mR M l0 1) = 18 ∧ vp_in (mI M l0 0) (mN M (mR M l0 1))) ∧ mK M (mR M (mR M l0 1) ((mI M l0 0).toNatClampNeg)) = 9 ∧ CV G d 75 [.ref (mR M (mR M l0 1) ((mI M l0 0).toNatClampNeg)), .ref l1] M (fun N2 => mK N2 l0 = 6 ∧ mK N2 l0 = 6 ∧ P (sI N2 l0 0 ((mI N2 l0 0) + (1 : Int32))))) (mK M l0 = 6 ∧ CV G d 45 [.ref l0] M (fun N4 => mK N4 l0 = 6 ∧ mK N4 l0 = 6 ∧ (mK N4 (mR N4 l0 1) = 18 ∧ vp_in (mI N4 l0 0) (mN N4 (mR N4 l0 1))) ∧ mK N4 (mR N4 (mR N4 l0 1) ((mI N4 l0 0).toNatClampNeg)) = 9 ∧ CV G d 75 [.ref (mR N4 (mR N4 l0 1) ((mI N4 l0 0).toNatClampNeg)), .ref l1] N4 (fun N6 => mK N6 l0 = 6 ∧ mK N6 l0 = 6 ∧ P (sI N6 l0 0 ((mI N6 l0 0) + (1 : Int32))))))) : CV G (d + 1) 44 [.ref l0, .ref l1] M P := CV_in (nL := 2) (rt := none) (bs := P44) rfl (Nat.le_of_ble_eq_true rfl) (XX_at _ rfl ⟨h.1, ⟨fun q1001 => (XX_at _ rfl ⟨(h.2.1 q1001).1, ⟨(h.2.1 q1001).2.1, ⟨⟨Or.inr (h.2.1 q1001).2.2.1.1, (h.2.1 q1001).2.2.1.2⟩, ⟨⟨(h.2.1 q1001).2.2.2.1, Nat.le_of_ble_eq_true rfl⟩, ⟨Nat.le_of_ble_eq_true rfl, Nat.le_of_ble_eq_true rfl⟩, (match (h.2.1 q1001).2.2.2.2 with | ⟨N2, hc1002, hk1003⟩ => ⟨none, N2, hc1002, ⟨hk1003.1, ⟨hk1003.2.1, ⟨rfl, hk1003.2.2⟩⟩⟩⟩)⟩⟩⟩⟩), fun q1001 => ⟨⟨(h.2.2 q1001).1, Nat.le_of_ble_eq_true rfl⟩, ⟨Nat.le_of_ble_eq_true rfl, Nat.le_of_ble_eq_true rfl⟩, (match (h.2.2 q1001).2 with | ⟨N4, hc1004, hk1005⟩ => ⟨none, N4, hc1004, ⟨hk1005.1, ⟨hk1005.2.1, ⟨⟨Or.inr hk1005.2.2.1.1, hk1005.2.2.1.2⟩, ⟨⟨hk1005.2.2.2.1, Nat.le_of_ble_eq_true rfl⟩, ⟨Nat.le_of_ble_eq_true rfl, Nat.le_of_ble_eq_true rfl⟩, (match hk1005.2.2.2.2 with | ⟨N6, hc1006, hk1007⟩ => ⟨none, N6, hc1006, ⟨hk1007.1, ⟨hk1007.2.1, ⟨rfl, hk1007.2.2⟩⟩⟩⟩)⟩⟩⟩⟩⟩)⟩⟩⟩)
/- ShoeOrchard$Past.dropOldest()V cuts [9] -/
def S45_9_29 : List Instr := [.iinc 2 1, .goto (-23)]
theorem b45_9_29 {G : GG} {d : Nat} {Q : Option Value → mm_M → Prop} {l0 : Nat} {l1 : Nat} {l2 : Int32} {M : mm_M} (h : XX G d none P45 Q 9 [.ref l0, .ref l1, .int (l2 + (1 : Int32))] [] M) : BB G d none P45 Q S45_9_29 29 [.ref l0, .ref l1, .int l2] [] M := h
theorem x45_9 {G : GG} {d : Nat} {Q : Option Value → mm_M → Prop} {l0 : Nat} {l1 : Nat} {l2 : Int32} {M : mm_M} (h : ifP ((16 : Int32) ≤ l2) (mK M l0 = 6 ∧ (mK M (mR M l0 1) = 18 ∧ mK M l1 = 9 ∧ vp_in (15 : Int32) (mN M (mR M l0 1))) ∧ mK (sR M (mR M l0 1) 15 l1) l0 = 6 ∧ Q none (sI (sR M (mR M l0 1) 15 l1) l0 0 (15 : Int32))) (mK M l0 = 6 ∧ mK M l0 = 6 ∧ (mK M (mR M l0 1) = 18 ∧ vp_in l2 (mN M (mR M l0 1))) ∧ (mK M (mR M l0 1) = 18 ∧ mK M (mR M (mR M l0 1) l2.toNatClampNeg) = 9 ∧ vp_in (l2 - (1 : Int32)) (mN M (mR M l0 1))) ∧ BB G d none P45 Q S45_9_29 29 [.ref l0, .ref l1, .int l2] [] (sR M (mR M l0 1) ((l2 - (1 : Int32)).toNatClampNeg) (mR M (mR M l0 1) l2.toNatClampNeg)))) : XX G d none P45 Q 9 [.ref l0, .ref l1, .int l2] [] M := XX_at _ rfl ⟨fun q1001 => (XX_at _ rfl ⟨(h.1 q1001).1, ⟨⟨Or.inr ⟨(h.1 q1001).2.1.1, (h.1 q1001).2.1.2.1⟩, (h.1 q1001).2.1.2.2⟩, ⟨(h.1 q1001).2.2.1, (h.1 q1001).2.2.2⟩⟩⟩), fun q1001 => ⟨(h.2 q1001).1, ⟨(h.2 q1001).2.1, ⟨⟨Or.inr (h.2 q1001).2.2.1.1, (h.2 q1001).2.2.1.2⟩, ⟨⟨Or.inr ⟨(h.2 q1001).2.2.2.1.1, (h.2 q1001).2.2.2.1.2.1⟩, (h.2 q1001).2.2.2.1.2.2⟩, (h.2 q1001).2.2.2.2⟩⟩⟩⟩⟩
theorem e45 {G : GG} {d : Nat} {P : mm_M → Prop} {l0 : Nat} {M : mm_M} (h : mK M l0 = 6 ∧ (mK M (mR M l0 1) = 18 ∧ vp_in (0 : Int32) (mN M (mR M l0 1))) ∧ XX G d none P45 (QV P) 9 [.ref l0, .ref (mR M (mR M l0 1) 0), .int (1 : Int32)] [] M) : CV G (d + 1) 45 [.ref l0] M P := CV_in (nL := 3) (rt := none) (bs := P45) rfl (Nat.le_of_ble_eq_true rfl) (XX_at _ rfl ⟨h.1, ⟨⟨Or.inr h.2.1.1, h.2.1.2⟩, h.2.2⟩⟩)
/- ShoeOrchard$Past.bringBack(LShoeOrchard$State;)Z cuts [] -/
theorem e46 {G : GG} {d : Nat} {P : Int32 → mm_M → Prop} {l0 : Nat} {l1 : Nat} {M : mm_M} (h : mK M l0 = 6 ∧ ifP ((1 : Int32) ≤ (mI M l0 0)) (mK M l0 = 6 ∧ mK M l0 = 6 ∧ mK (sI M l0 0 ((mI M l0 0) - (1 : Int32))) l0 = 6 ∧ mK (sI M l0 0 ((mI M l0 0) - (1 : Int32))) l0 = 6 ∧ (mK (sI M l0 0 ((mI M l0 0) - (1 : Int32))) (mR (sI M l0 0 ((mI M l0 0) - (1 : Int32))) l0 1) = 18 ∧ vp_in (mI (sI M l0 0 ((mI M l0 0) - (1 : Int32))) l0 0) (mN (sI M l0 0 ((mI M l0 0) - (1 : Int32))) (mR (sI M l0 0 ((mI M l0 0) - (1 : Int32))) l0 1))) ∧ mK (sI M l0 0 ((mI M l0 0) - (1 : Int32))) l1 = 9 ∧ CV G d 75 [.ref l1, .ref (mR (sI M l0 0 ((mI M l0 0) - (1 : Int32))) (mR (sI M l0 0 ((mI M l0 0) - (1 : Int32))) l0 1) ((mI (sI M l0 0 ((mI M l0 0) - (1 : Int32))) l0 0).toNatClampNeg))] (sI M l0 0 ((mI M l0 0) - (1 : Int32))) (fun N2 => P (1 : Int32) N2)) (P (0 : Int32) M)) : CI G (d + 1) 46 [.ref l0, .ref l1] M P := CI_in (nL := 2) (rt := (some .boolean)) (bs := P46) rfl (Nat.le_of_ble_eq_true rfl) (XX_at _ rfl ⟨h.1, ⟨fun q1001 => (XX_at _ rfl ⟨(h.2.1 q1001).1, ⟨(h.2.1 q1001).2.1, ⟨(h.2.1 q1001).2.2.1, ⟨(h.2.1 q1001).2.2.2.1, ⟨⟨Or.inr (h.2.1 q1001).2.2.2.2.1.1, (h.2.1 q1001).2.2.2.2.1.2⟩, ⟨⟨(h.2.1 q1001).2.2.2.2.2.1, Nat.le_of_ble_eq_true rfl⟩, ⟨Nat.le_of_ble_eq_true rfl, Nat.le_of_ble_eq_true rfl⟩, (match (h.2.1 q1001).2.2.2.2.2.2 with | ⟨N2, hc1002, hk1003⟩ => ⟨none, N2, hc1002, ⟨rfl, ⟨_, rfl, hk1003⟩⟩⟩)⟩⟩⟩⟩⟩⟩), fun q1001 => ⟨rfl, ⟨_, rfl, (h.2.2 q1001)⟩⟩⟩⟩)
/- ShoeOrchard$Past.goBack(ILShoeOrchard$State;LShoeOrchard$Felt;)Z cuts [] -/
theorem e47 {G : GG} {d : Nat} {P : Int32 → mm_M → Prop} {l0 : Nat} {l1 : Int32} {l2 : Nat} {l3 : Nat} {M : mm_M} (h : ifP (l1 < 0) (P (0 : Int32) M) (ifP ((4 : Int32) ≤ l1) (P (0 : Int32) M) (mK M l0 = 6 ∧ (mK M (mR M l0 4) = 16 ∧ vp_in l1 (mN M (mR M l0 4))) ∧ ifP (¬ (mI M (mR M l0 4) l1.toNatClampNeg) = 0) (mK M l0 = 6 ∧ (mK M (mR M l0 2) = 18 ∧ vp_in l1 (mN M (mR M l0 2))) ∧ mK M l2 = 9 ∧ CV G d 75 [.ref l2, .ref (mR M (mR M l0 2) l1.toNatClampNeg)] M (fun N2 => mK N2 l0 = 6 ∧ (mK N2 (mR N2 l0 3) = 17 ∧ vp_in l1 (mN N2 (mR N2 l0 3))) ∧ mK N2 l3 = 0 ∧ CV G d 4 [.ref l3, .ref (mR N2 (mR N2 l0 3) l1.toNatClampNeg)] N2 (fun N4 => mK N4 l0 = 6 ∧ P (1 : Int32) (sI N4 l0 0 (0 : Int32))))) (P (0 : Int32) M)))) : CI G (d + 1) 47 [.ref l0, .int l1, .ref l2, .ref l3] M P := CI_in (nL := 4) (rt := (some .boolean)) (bs := P47) rfl (Nat.le_of_ble_eq_true rfl) (XX_at _ rfl ⟨fun q1001 => (XX_at _ rfl ⟨rfl, ⟨_, rfl, (h.1 q1001)⟩⟩), fun q1001 => ⟨fun q1002 => (XX_at _ rfl ⟨rfl, ⟨_, rfl, ((h.2 q1001).1 q1002)⟩⟩), fun q1002 => ⟨((h.2 q1001).2 q1002).1, ⟨((h.2 q1001).2 q1002).2.1, ⟨fun q1003 => (XX_at _ rfl ⟨(((h.2 q1001).2 q1002).2.2.1 q1003).1, ⟨⟨Or.inr (((h.2 q1001).2 q1002).2.2.1 q1003).2.1.1, (((h.2 q1001).2 q1002).2.2.1 q1003).2.1.2⟩, ⟨⟨(((h.2 q1001).2 q1002).2.2.1 q1003).2.2.1, Nat.le_of_ble_eq_true rfl⟩, ⟨Nat.le_of_ble_eq_true rfl, Nat.le_of_ble_eq_true rfl⟩, (match (((h.2 q1001).2 q1002).2.2.1 q1003).2.2.2 with | ⟨N2, hc1004, hk1005⟩ => ⟨none, N2, hc1004, ⟨hk1005.1, ⟨⟨Or.inl hk1005.2.1.1, hk1005.2.1.2⟩, ⟨⟨hk1005.2.2.1, Nat.le_of_ble_eq_true rfl⟩, ⟨Nat.le_of_ble_eq_true rfl, Nat.le_of_ble_eq_true rfl⟩, (match hk1005.2.2.2 with | ⟨N4, hc1006, hk1007⟩ => ⟨none, N4, hc1006, ⟨hk1007.1, ⟨rfl, ⟨_, rfl, hk1007.2⟩⟩⟩⟩)⟩⟩⟩⟩)⟩⟩⟩), fun q1003 => ⟨rfl, ⟨_, rfl, (((h.2 q1001).2 q1002).2.2.2 q1003)⟩⟩⟩⟩⟩⟩⟩)
/- ShoeOrchard$Past.lay(ILShoeOrchard$State;LShoeOrchard$Felt;)V cuts [] -/
def S48_0_36 : List Instr := [.return_]
theorem b48_0_36 {G : GG} {d : Nat} {Q : Option Value → mm_M → Prop} {l0 : Nat} {l1 : Int32} {l2 : Nat} {l3 : Nat} {M : mm_M} (h : Q none M) : BB G d none P48 Q S48_0_36 36 [.ref l0, .int l1, .ref l2, .ref l3] [] M := h
theorem e48 {G : GG} {d : Nat} {P : mm_M → Prop} {l0 : Nat} {l1 : Int32} {l2 : Nat} {l3 : Nat} {M : mm_M} (h : ifP (l1 < 0) (P M) (ifP ((4 : Int32) ≤ l1) (P M) (mK M l0 = 6 ∧ (mK M (mR M l0 2) = 18 ∧ vp_in l1 (mN M (mR M l0 2))) ∧ mK M (mR M (mR M l0 2) l1.toNatClampNeg) = 9 ∧ CV G d 75 [.ref (mR M (mR M l0 2) l1.toNatClampNeg), .ref l2] M (fun N2 => mK N2 l0 = 6 ∧ (mK N2 (mR N2 l0 3) = 17 ∧ vp_in l1 (mN N2 (mR N2 l0 3))) ∧ mK N2 (mR N2 (mR N2 l0 3) l1.toNatClampNeg) = 0 ∧ CV G d 4 [.ref (mR N2 (mR N2 l0 3) l1.toNatClampNeg), .ref l3] N2 (fun N4 => mK N4 l0 = 6 ∧ (mK N4 (mR N4 l0 4) = 16 ∧ vp_in l1 (mN N4 (mR N4 l0 4))) ∧ BB G d none P48 (QV P) S48_0_36 36 [.ref l0, .int l1, .ref l2, .ref l3] [] (sI N4 (mR N4 l0 4) l1.toNatClampNeg (vp_nar .boolean (1 : Int32)))))))) : CV G (d + 1) 48 [.ref l0, .int l1, .ref l2, .ref l3] M P := CV_in (nL := 4) (rt := none) (bs := P48) rfl (Nat.le_of_ble_eq_true rfl) (XX_at _ rfl ⟨fun q1001 => (XX_at _ rfl ⟨rfl, (h.1 q1001)⟩), fun q1001 => ⟨fun q1002 => (XX_at _ rfl ⟨rfl, ((h.2 q1001).1 q1002)⟩), fun q1002 => ⟨((h.2 q1001).2 q1002).1, ⟨⟨Or.inr ((h.2 q1001).2 q1002).2.1.1, ((h.2 q1001).2 q1002).2.1.2⟩, ⟨⟨((h.2 q1001).2 q1002).2.2.1, Nat.le_of_ble_eq_true rfl⟩, ⟨Nat.le_of_ble_eq_true rfl, Nat.le_of_ble_eq_true rfl⟩, (match ((h.2 q1001).2 q1002).2.2.2 with | ⟨N2, hc1003, hk1004⟩ => ⟨none, N2, hc1003, ⟨hk1004.1, ⟨⟨Or.inl hk1004.2.1.1, hk1004.2.1.2⟩, ⟨⟨hk1004.2.2.1, Nat.le_of_ble_eq_true rfl⟩, ⟨Nat.le_of_ble_eq_true rfl, Nat.le_of_ble_eq_true rfl⟩, (match hk1004.2.2.2 with | ⟨N4, hc1005, hk1006⟩ => ⟨none, N4, hc1005, ⟨hk1006.1, ⟨hk1006.2.1, hk1006.2.2⟩⟩⟩)⟩⟩⟩⟩)⟩⟩⟩⟩⟩)
end
section
/- ShoeOrchard$Plan.<init>()V cuts [] -/
def S49_0_20 : List Instr := [.aload_n 0, .bipush 6, .newarray .int, .putfield 455, .aload_n 0, .bipush 6, .newarray .long, .putfield 456, .aload_n 0, .bipush 6, .newarray .int, .putfield 457, .aload_n 0, .bipush 6, .newarray .int, .putfield 458, .aload_n 0, .bipush 6, .newarray .long, .putfield 459, .aload_n 0, .bipush 12, .newarray .int, .putfield 460, .aload_n 0, .new 1, .dup, .invokespecial 5, .putfield 461, .return_]
def S49_0_36 : List Instr := [.aload_n 0, .bipush 6, .newarray .int, .putfield 457, .aload_n 0, .bipush 6, .newarray .int, .putfield 458, .aload_n 0, .bipush 6, .newarray .long, .putfield 459, .aload_n 0, .bipush 12, .newarray .int, .putfield 460, .aload_n 0, .new 1, .dup, .invokespecial 5, .putfield 461, .return_]
def S49_0_52 : List Instr := [.aload_n 0, .bipush 6, .newarray .long, .putfield 459, .aload_n 0, .bipush 12, .newarray .int, .putfield 460, .aload_n 0, .new 1, .dup, .invokespecial 5, .putfield 461, .return_]
def S49_0_68 : List Instr := [.aload_n 0, .new 1, .dup, .invokespecial 5, .putfield 461, .return_]
theorem b49_0_20 {G : GG} {d : Nat} {Q : Option Value → mm_M → Prop} {l0 : Nat} {M : mm_M} (h : (mK (nw M 14 6 6) l0 = 7 ∧ (mS M) ≠ 0) ∧ (mK (nw (sR (nw M 14 6 6) l0 7 (mS M)) 15 6 6) l0 = 7 ∧ (mS (sR (nw M 14 6 6) l0 7 (mS M))) ≠ 0) ∧ BB G d none P49 Q S49_0_36 36 [.ref l0] [] (sR (nw (sR (nw M 14 6 6) l0 7 (mS M)) 15 6 6) l0 8 (mS (sR (nw M 14 6 6) l0 7 (mS M))))) : BB G d none P49 Q S49_0_20 20 [.ref l0] [] M := ⟨⟨by decide, by decide⟩, ⟨⟨h.1.1, rfl, h.1.2⟩, ⟨⟨by decide, by decide⟩, ⟨⟨h.2.1.1, rfl, h.2.1.2⟩, h.2.2⟩⟩⟩⟩
theorem b49_0_36 {G : GG} {d : Nat} {Q : Option Value → mm_M → Prop} {l0 : Nat} {M : mm_M} (h : (mK (nw M 14 6 6) l0 = 7 ∧ (mS M) ≠ 0) ∧ (mK (nw (sR (nw M 14 6 6) l0 9 (mS M)) 14 6 6) l0 = 7 ∧ (mS (sR (nw M 14 6 6) l0 9 (mS M))) ≠ 0) ∧ BB G d none P49 Q S49_0_52 52 [.ref l0] [] (sR (nw (sR (nw M 14 6 6) l0 9 (mS M)) 14 6 6) l0 10 (mS (sR (nw M 14 6 6) l0 9 (mS M))))) : BB G d none P49 Q S49_0_36 36 [.ref l0] [] M := ⟨⟨by decide, by decide⟩, ⟨⟨h.1.1, rfl, h.1.2⟩, ⟨⟨by decide, by decide⟩, ⟨⟨h.2.1.1, rfl, h.2.1.2⟩, h.2.2⟩⟩⟩⟩
theorem b49_0_52 {G : GG} {d : Nat} {Q : Option Value → mm_M → Prop} {l0 : Nat} {M : mm_M} (h : (mK (nw M 15 6 6) l0 = 7 ∧ (mS M) ≠ 0) ∧ (mK (nw (sR (nw M 15 6 6) l0 11 (mS M)) 14 12 12) l0 = 7 ∧ (mS (sR (nw M 15 6 6) l0 11 (mS M))) ≠ 0) ∧ BB G d none P49 Q S49_0_68 68 [.ref l0] [] (sR (nw (sR (nw M 15 6 6) l0 11 (mS M)) 14 12 12) l0 12 (mS (sR (nw M 15 6 6) l0 11 (mS M))))) : BB G d none P49 Q S49_0_52 52 [.ref l0] [] M := ⟨⟨by decide, by decide⟩, ⟨⟨h.1.1, rfl, h.1.2⟩, ⟨⟨by decide, by decide⟩, ⟨⟨h.2.1.1, rfl, h.2.1.2⟩, h.2.2⟩⟩⟩⟩
theorem b49_0_68 {G : GG} {d : Nat} {Q : Option Value → mm_M → Prop} {l0 : Nat} {M : mm_M} (h : (mS M) ≠ 0 ∧ CV G d 5 [.ref (mS M)] (nw M 1 0 3) (fun N2 => (mK N2 l0 = 7 ∧ (mS M) ≠ 0) ∧ Q none (sR N2 l0 13 (mS M)))) : BB G d none P49 Q S49_0_68 68 [.ref l0] [] M := ⟨Nat.le_of_ble_eq_true rfl, ⟨h.1, ⟨Nat.le_of_ble_eq_true rfl, Nat.le_of_ble_eq_true rfl⟩, (match h.2 with | ⟨N2, hc1001, hk1002⟩ => ⟨none, N2, hc1001, ⟨⟨hk1002.1.1, rfl, hk1002.1.2⟩, hk1002.2⟩⟩)⟩⟩
theorem e49 {G : GG} {d : Nat} {P : mm_M → Prop} {l0 : Nat} {M : mm_M} (h : l0 ≠ 0 ∧ (mK (nw M 14 6 6) l0 = 7 ∧ (mS M) ≠ 0) ∧ (mK (nw (sR (nw M 14 6 6) l0 5 (mS M)) 14 6 6) l0 = 7 ∧ (mS (sR (nw M 14 6 6) l0 5 (mS M))) ≠ 0) ∧ BB G d none P49 (QV P) S49_0_20 20 [.ref l0] [] (sR (nw (sR (nw M 14 6 6) l0 5 (mS M)) 14 6 6) l0 6 (mS (sR (nw M 14 6 6) l0 5 (mS M))))) : CV G (d + 1) 49 [.ref l0] M P := CV_in (nL := 1) (rt := none) (bs := P49) rfl (Nat.le_of_ble_eq_true rfl) (XX_at _ rfl ⟨⟨h.1, Nat.le_of_ble_eq_true rfl⟩, ⟨⟨by decide, by decide⟩, ⟨⟨h.2.1.1, rfl, h.2.1.2⟩, ⟨⟨by decide, by decide⟩, ⟨⟨h.2.2.1.1, rfl, h.2.2.1.2⟩, h.2.2.2⟩⟩⟩⟩⟩)
/- ShoeOrchard$Plan.clear()V cuts [] -/
def S50_0_15 : List Instr := [.aload_n 0, .iconst 3, .putfield 451, .aload_n 0, .iconst 0, .putfield 452, .aload_n 0, .getfield 461, .invokevirtual 6, .return_]
theorem b50_0_15 {G : GG} {d : Nat} {Q : Option Value → mm_M → Prop} {l0 : Nat} {M : mm_M} (h : mK M l0 = 7 ∧ mK (sI M l0 3 (3 : Int32)) l0 = 7 ∧ mK (sI (sI M l0 3 (3 : Int32)) l0 4 (0 : Int32)) l0 = 7 ∧ mK (sI (sI M l0 3 (3 : Int32)) l0 4 (0 : Int32)) (mR (sI (sI M l0 3 (3 : Int32)) l0 4 (0 : Int32)) l0 13) = 1 ∧ CV G d 6 [.ref (mR (sI (sI M l0 3 (3 : Int32)) l0 4 (0 : Int32)) l0 13)] (sI (sI M l0 3 (3 : Int32)) l0 4 (0 : Int32)) (fun N2 => Q none N2)) : BB G d none P50 Q S50_0_15 15 [.ref l0] [] M := ⟨h.1, ⟨h.2.1, ⟨h.2.2.1, ⟨⟨h.2.2.2.1, Nat.le_of_ble_eq_true rfl⟩, ⟨Nat.le_of_ble_eq_true rfl, Nat.le_of_ble_eq_true rfl⟩, (match h.2.2.2.2 with | ⟨N2, hc1001, hk1002⟩ => ⟨none, N2, hc1001, hk1002⟩)⟩⟩⟩⟩
theorem e50 {G : GG} {d : Nat} {P : mm_M → Prop} {l0 : Nat} {M : mm_M} (h : mK M l0 = 7 ∧ mK (sI M l0 0 (0 : Int32)) l0 = 7 ∧ mK (sI (sI M l0 0 (0 : Int32)) l0 1 (0 : Int32)) l0 = 7 ∧ BB G d none P50 (QV P) S50_0_15 15 [.ref l0] [] (sI (sI (sI M l0 0 (0 : Int32)) l0 1 (0 : Int32)) l0 2 (1 : Int32))) : CV G (d + 1) 50 [.ref l0] M P := CV_in (nL := 1) (rt := none) (bs := P50) rfl (Nat.le_of_ble_eq_true rfl) (XX_at _ rfl ⟨h.1, ⟨h.2.1, ⟨h.2.2.1, h.2.2.2⟩⟩⟩)
/- ShoeOrchard$Plan.treeNamed(J)I cuts [2] -/
theorem x51_2 {G : GG} {d : Nat} {Q : Option Value → mm_M → Prop} {l0 : Nat} {l1 : Int64} {l3 : Int32} {M : mm_M} (h : mK M l0 = 7 ∧ ifP ((mI M l0 0) ≤ l3) (Q (some (.int (-1 : Int32))) M) (mK M l0 = 7 ∧ (mK M (mR M l0 8) = 15 ∧ vp_in l3 (mN M (mR M l0 8))) ∧ ifP (¬ (lg_cmp (mJ M (mR M l0 8) l3.toNatClampNeg) l1) = 0) (XX G d (some .int) P51 Q 2 [.ref l0, .long l1, jk, .int (l3 + (1 : Int32))] [] M) (Q (some (.int l3)) M))) : XX G d (some .int) P51 Q 2 [.ref l0, .long l1, jk, .int l3] [] M := XX_at _ rfl ⟨h.1, ⟨fun q1001 => (XX_at _ rfl ⟨rfl, (h.2.1 q1001)⟩), fun q1001 => ⟨(h.2.2 q1001).1, ⟨(h.2.2 q1001).2.1, ⟨fun q1002 => (XX_at _ rfl ((h.2.2 q1001).2.2.1 q1002)), fun q1002 => ⟨rfl, ((h.2.2 q1001).2.2.2 q1002)⟩⟩⟩⟩⟩⟩
theorem e51 {G : GG} {d : Nat} {P : Int32 → mm_M → Prop} {l0 : Nat} {l1 : Int64} {M : mm_M} (h : XX G d (some .int) P51 (QI P) 2 [.ref l0, .long l1, jk, .int (0 : Int32)] [] M) : CI G (d + 1) 51 [.ref l0, .long l1] M P := CI_in (nL := 4) (rt := (some .int)) (bs := P51) rfl (Nat.le_of_ble_eq_true rfl) (XX_at _ rfl h)
/- ShoeOrchard$Plan.personNamed(J)I cuts [2] -/
theorem x52_2 {G : GG} {d : Nat} {Q : Option Value → mm_M → Prop} {l0 : Nat} {l1 : Int64} {l3 : Int32} {M : mm_M} (h : mK M l0 = 7 ∧ ifP ((mI M l0 1) ≤ l3) (Q (some (.int (-1 : Int32))) M) (mK M l0 = 7 ∧ (mK M (mR M l0 11) = 15 ∧ vp_in l3 (mN M (mR M l0 11))) ∧ ifP (¬ (lg_cmp (mJ M (mR M l0 11) l3.toNatClampNeg) l1) = 0) (XX G d (some .int) P52 Q 2 [.ref l0, .long l1, jk, .int (l3 + (1 : Int32))] [] M) (Q (some (.int l3)) M))) : XX G d (some .int) P52 Q 2 [.ref l0, .long l1, jk, .int l3] [] M := XX_at _ rfl ⟨h.1, ⟨fun q1001 => (XX_at _ rfl ⟨rfl, (h.2.1 q1001)⟩), fun q1001 => ⟨(h.2.2 q1001).1, ⟨(h.2.2 q1001).2.1, ⟨fun q1002 => (XX_at _ rfl ((h.2.2 q1001).2.2.1 q1002)), fun q1002 => ⟨rfl, ((h.2.2 q1001).2.2.2 q1002)⟩⟩⟩⟩⟩⟩
theorem e52 {G : GG} {d : Nat} {P : Int32 → mm_M → Prop} {l0 : Nat} {l1 : Int64} {M : mm_M} (h : XX G d (some .int) P52 (QI P) 2 [.ref l0, .long l1, jk, .int (0 : Int32)] [] M) : CI G (d + 1) 52 [.ref l0, .long l1] M P := CI_in (nL := 4) (rt := (some .int)) (bs := P52) rfl (Nat.le_of_ble_eq_true rfl) (XX_at _ rfl h)
/- ShoeOrchard$Plan.copy(LShoeOrchard$Plan;)V cuts [] -/
def S53_0_16 : List Instr := [.aload_n 0, .aload_n 1, .getfield 450, .putfield 450, .aload_n 0, .aload_n 1, .getfield 451, .putfield 451, .aload_n 0, .aload_n 1, .getfield 452, .putfield 452, .aload_n 1, .getfield 453, .iconst 0, .aload_n 0, .getfield 453, .iconst 0, .bipush 6, .invokestatic 900, .aload_n 1, .getfield 454, .iconst 0, .aload_n 0, .getfield 454, .iconst 0, .bipush 6, .invokestatic 900, .aload_n 1, .getfield 455, .iconst 0, .aload_n 0, .getfield 455, .iconst 0, .bipush 6, .invokestatic 900, .aload_n 1, .getfield 456, .iconst 0, .aload_n 0, .getfield 456, .iconst 0, .bipush 6, .invokestatic 901, .aload_n 1, .getfield 457, .iconst 0, .aload_n 0, .getfield 457, .iconst 0, .bipush 6, .invokestatic 900, .aload_n 1, .getfield 458, .iconst 0, .aload_n 0, .getfield 458, .iconst 0, .bipush 6, .invokestatic 900, .aload_n 1, .getfield 459, .iconst 0, .aload_n 0, .getfield 459, .iconst 0, .bipush 6, .invokestatic 901, .aload_n 1, .getfield 460, .iconst 0, .aload_n 0, .getfield 460, .iconst 0, .bipush 12, .invokestatic 900, .aload_n 0, .getfield 461, .aload_n 1, .getfield 461, .invokevirtual 8, .return_]
def S53_0_32 : List Instr := [.aload_n 0, .aload_n 1, .getfield 452, .putfield 452, .aload_n 1, .getfield 453, .iconst 0, .aload_n 0, .getfield 453, .iconst 0, .bipush 6, .invokestatic 900, .aload_n 1, .getfield 454, .iconst 0, .aload_n 0, .getfield 454, .iconst 0, .bipush 6, .invokestatic 900, .aload_n 1, .getfield 455, .iconst 0, .aload_n 0, .getfield 455, .iconst 0, .bipush 6, .invokestatic 900, .aload_n 1, .getfield 456, .iconst 0, .aload_n 0, .getfield 456, .iconst 0, .bipush 6, .invokestatic 901, .aload_n 1, .getfield 457, .iconst 0, .aload_n 0, .getfield 457, .iconst 0, .bipush 6, .invokestatic 900, .aload_n 1, .getfield 458, .iconst 0, .aload_n 0, .getfield 458, .iconst 0, .bipush 6, .invokestatic 900, .aload_n 1, .getfield 459, .iconst 0, .aload_n 0, .getfield 459, .iconst 0, .bipush 6, .invokestatic 901, .aload_n 1, .getfield 460, .iconst 0, .aload_n 0, .getfield 460, .iconst 0, .bipush 12, .invokestatic 900, .aload_n 0, .getfield 461, .aload_n 1, .getfield 461, .invokevirtual 8, .return_]
def S53_0_55 : List Instr := [.aload_n 1, .getfield 454, .iconst 0, .aload_n 0, .getfield 454, .iconst 0, .bipush 6, .invokestatic 900, .aload_n 1, .getfield 455, .iconst 0, .aload_n 0, .getfield 455, .iconst 0, .bipush 6, .invokestatic 900, .aload_n 1, .getfield 456, .iconst 0, .aload_n 0, .getfield 456, .iconst 0, .bipush 6, .invokestatic 901, .aload_n 1, .getfield 457, .iconst 0, .aload_n 0, .getfield 457, .iconst 0, .bipush 6, .invokestatic 900, .aload_n 1, .getfield 458, .iconst 0, .aload_n 0, .getfield 458, .iconst 0, .bipush 6, .invokestatic 900, .aload_n 1, .getfield 459, .iconst 0, .aload_n 0, .getfield 459, .iconst 0, .bipush 6, .invokestatic 901, .aload_n 1, .getfield 460, .iconst 0, .aload_n 0, .getfield 460, .iconst 0, .bipush 12, .invokestatic 900, .aload_n 0, .getfield 461, .aload_n 1, .getfield 461, .invokevirtual 8, .return_]
def S53_0_70 : List Instr := [.aload_n 1, .getfield 455, .iconst 0, .aload_n 0, .getfield 455, .iconst 0, .bipush 6, .invokestatic 900, .aload_n 1, .getfield 456, .iconst 0, .aload_n 0, .getfield 456, .iconst 0, .bipush 6, .invokestatic 901, .aload_n 1, .getfield 457, .iconst 0, .aload_n 0, .getfield 457, .iconst 0, .bipush 6, .invokestatic 900, .aload_n 1, .getfield 458, .iconst 0, .aload_n 0, .getfield 458, .iconst 0, .bipush 6, .invokestatic 900, .aload_n 1, .getfield 459, .iconst 0, .aload_n 0, .getfield 459, .iconst 0, .bipush 6, .invokestatic 901, .aload_n 1, .getfield 460, .iconst 0, .aload_n 0, .getfield 460, .iconst 0, .bipush 12, .invokestatic 900, .aload_n 0, .getfield 461, .aload_n 1, .getfield 461, .invokevirtual 8, .return_]
def S53_0_85 : List Instr := [.aload_n 1, .getfield 456, .iconst 0, .aload_n 0, .getfield 456, .iconst 0, .bipush 6, .invokestatic 901, .aload_n 1, .getfield 457, .iconst 0, .aload_n 0, .getfield 457, .iconst 0, .bipush 6, .invokestatic 900, .aload_n 1, .getfield 458, .iconst 0, .aload_n 0, .getfield 458, .iconst 0, .bipush 6, .invokestatic 900, .aload_n 1, .getfield 459, .iconst 0, .aload_n 0, .getfield 459, .iconst 0, .bipush 6, .invokestatic 901, .aload_n 1, .getfield 460, .iconst 0, .aload_n 0, .getfield 460, .iconst 0, .bipush 12, .invokestatic 900, .aload_n 0, .getfield 461, .aload_n 1, .getfield 461, .invokevirtual 8, .return_]
def S53_0_100 : List Instr := [.aload_n 1, .getfield 457, .iconst 0, .aload_n 0, .getfield 457, .iconst 0, .bipush 6, .invokestatic 900, .aload_n 1, .getfield 458, .iconst 0, .aload_n 0, .getfield 458, .iconst 0, .bipush 6, .invokestatic 900, .aload_n 1, .getfield 459, .iconst 0, .aload_n 0, .getfield 459, .iconst 0, .bipush 6, .invokestatic 901, .aload_n 1, .getfield 460, .iconst 0, .aload_n 0, .getfield 460, .iconst 0, .bipush 12, .invokestatic 900, .aload_n 0, .getfield 461, .aload_n 1, .getfield 461, .invokevirtual 8, .return_]
def S53_0_115 : List Instr := [.aload_n 1, .getfield 458, .iconst 0, .aload_n 0, .getfield 458, .iconst 0, .bipush 6, .invokestatic 900, .aload_n 1, .getfield 459, .iconst 0, .aload_n 0, .getfield 459, .iconst 0, .bipush 6, .invokestatic 901, .aload_n 1, .getfield 460, .iconst 0, .aload_n 0, .getfield 460, .iconst 0, .bipush 12, .invokestatic 900, .aload_n 0, .getfield 461, .aload_n 1, .getfield 461, .invokevirtual 8, .return_]
def S53_0_130 : List Instr := [.aload_n 1, .getfield 459, .iconst 0, .aload_n 0, .getfield 459, .iconst 0, .bipush 6, .invokestatic 901, .aload_n 1, .getfield 460, .iconst 0, .aload_n 0, .getfield 460, .iconst 0, .bipush 12, .invokestatic 900, .aload_n 0, .getfield 461, .aload_n 1, .getfield 461, .invokevirtual 8, .return_]
def S53_0_145 : List Instr := [.aload_n 1, .getfield 460, .iconst 0, .aload_n 0, .getfield 460, .iconst 0, .bipush 12, .invokestatic 900, .aload_n 0, .getfield 461, .aload_n 1, .getfield 461, .invokevirtual 8, .return_]
def S53_0_160 : List Instr := [.aload_n 0, .getfield 461, .aload_n 1, .getfield 461, .invokevirtual 8, .return_]
theorem b53_0_100 {G : GG} {d : Nat} {Q : Option Value → mm_M → Prop} {l0 : Nat} {l1 : Nat} {M : mm_M} (h : mK M l1 = 7 ∧ mK M l0 = 7 ∧ (mK M (mR M l1 9) = 14 ∧ mK M (mR M l0 9) = 14 ∧ 0 + 6 ≤ mN M (mR M l1 9) ∧ 0 + 6 ≤ mN M (mR M l0 9)) ∧ BB G d none P53 Q S53_0_115 115 [.ref l0, .ref l1] [] (rwI M (mR M l0 9) (va_cpy (mI M (mR M l1 9)) (mI M (mR M l0 9)) 0 0 6))) : BB G d none P53 Q S53_0_100 100 [.ref l0, .ref l1] [] M := ⟨h.1, ⟨h.2.1, ⟨⟨h.2.2.1.1, h.2.2.1.2.1, by decide, by decide, by decide, h.2.2.1.2.2.1, h.2.2.1.2.2.2, Nat.le_of_ble_eq_true rfl⟩, h.2.2.2⟩⟩⟩
theorem b53_0_115 {G : GG} {d : Nat} {Q : Option Value → mm_M → Prop} {l0 : Nat} {l1 : Nat} {M : mm_M} (h : mK M l1 = 7 ∧ mK M l0 = 7 ∧ (mK M (mR M l1 10) = 14 ∧ mK M (mR M l0 10) = 14 ∧ 0 + 6 ≤ mN M (mR M l1 10) ∧ 0 + 6 ≤ mN M (mR M l0 10)) ∧ BB G d none P53 Q S53_0_130 130 [.ref l0, .ref l1] [] (rwI M (mR M l0 10) (va_cpy (mI M (mR M l1 10)) (mI M (mR M l0 10)) 0 0 6))) : BB G d none P53 Q S53_0_115 115 [.ref l0, .ref l1] [] M := ⟨h.1, ⟨h.2.1, ⟨⟨h.2.2.1.1, h.2.2.1.2.1, by decide, by decide, by decide, h.2.2.1.2.2.1, h.2.2.1.2.2.2, Nat.le_of_ble_eq_true rfl⟩, h.2.2.2⟩⟩⟩
theorem b53_0_130 {G : GG} {d : Nat} {Q : Option Value → mm_M → Prop} {l0 : Nat} {l1 : Nat} {M : mm_M} (h : mK M l1 = 7 ∧ mK M l0 = 7 ∧ (mK M (mR M l1 11) = 15 ∧ mK M (mR M l0 11) = 15 ∧ 0 + 6 ≤ mN M (mR M l1 11) ∧ 0 + 6 ≤ mN M (mR M l0 11)) ∧ BB G d none P53 Q S53_0_145 145 [.ref l0, .ref l1] [] (rwJ M (mR M l0 11) (va_cpy (mJ M (mR M l1 11)) (mJ M (mR M l0 11)) 0 0 6))) : BB G d none P53 Q S53_0_130 130 [.ref l0, .ref l1] [] M := ⟨h.1, ⟨h.2.1, ⟨⟨h.2.2.1.1, h.2.2.1.2.1, by decide, by decide, by decide, h.2.2.1.2.2.1, h.2.2.1.2.2.2, Nat.le_of_ble_eq_true rfl⟩, h.2.2.2⟩⟩⟩
theorem b53_0_145 {G : GG} {d : Nat} {Q : Option Value → mm_M → Prop} {l0 : Nat} {l1 : Nat} {M : mm_M} (h : mK M l1 = 7 ∧ mK M l0 = 7 ∧ (mK M (mR M l1 12) = 14 ∧ mK M (mR M l0 12) = 14 ∧ 0 + 12 ≤ mN M (mR M l1 12) ∧ 0 + 12 ≤ mN M (mR M l0 12)) ∧ BB G d none P53 Q S53_0_160 160 [.ref l0, .ref l1] [] (rwI M (mR M l0 12) (va_cpy (mI M (mR M l1 12)) (mI M (mR M l0 12)) 0 0 12))) : BB G d none P53 Q S53_0_145 145 [.ref l0, .ref l1] [] M := ⟨h.1, ⟨h.2.1, ⟨⟨h.2.2.1.1, h.2.2.1.2.1, by decide, by decide, by decide, h.2.2.1.2.2.1, h.2.2.1.2.2.2, Nat.le_of_ble_eq_true rfl⟩, h.2.2.2⟩⟩⟩
theorem b53_0_16 {G : GG} {d : Nat} {Q : Option Value → mm_M → Prop} {l0 : Nat} {l1 : Nat} {M : mm_M} (h : mK M l1 = 7 ∧ mK M l0 = 7 ∧ mK (sI M l0 2 (mI M l1 2)) l1 = 7 ∧ mK (sI M l0 2 (mI M l1 2)) l0 = 7 ∧ BB G d none P53 Q S53_0_32 32 [.ref l0, .ref l1] [] (sI (sI M l0 2 (mI M l1 2)) l0 3 (mI (sI M l0 2 (mI M l1 2)) l1 3))) : BB G d none P53 Q S53_0_16 16 [.ref l0, .ref l1] [] M := ⟨h.1, ⟨h.2.1, ⟨h.2.2.1, ⟨h.2.2.2.1, h.2.2.2.2⟩⟩⟩⟩
theorem b53_0_160 {G : GG} {d : Nat} {Q : Option Value → mm_M → Prop} {l0 : Nat} {l1 : Nat} {M : mm_M} (h : mK M l0 = 7 ∧ mK M l1 = 7 ∧ mK M (mR M l0 13) = 1 ∧ CV G d 8 [.ref (mR M l0 13), .ref (mR M l1 13)] M (fun N2 => Q none N2)) : BB G d none P53 Q S53_0_160 160 [.ref l0, .ref l1] [] M := ⟨h.1, ⟨h.2.1, ⟨⟨h.2.2.1, Nat.le_of_ble_eq_true rfl⟩, ⟨Nat.le_of_ble_eq_true rfl, Nat.le_of_ble_eq_true rfl⟩, (match h.2.2.2 with | ⟨N2, hc1001, hk1002⟩ => ⟨none, N2, hc1001, hk1002⟩)⟩⟩⟩
theorem b53_0_32 {G : GG} {d : Nat} {Q : Option Value → mm_M → Prop} {l0 : Nat} {l1 : Nat} {M : mm_M} (h : mK M l1 = 7 ∧ mK M l0 = 7 ∧ mK (sI M l0 4 (mI M l1 4)) l1 = 7 ∧ mK (sI M l0 4 (mI M l1 4)) l0 = 7 ∧ (mK (sI M l0 4 (mI M l1 4)) (mR (sI M l0 4 (mI M l1 4)) l1 5) = 14 ∧ mK (sI M l0 4 (mI M l1 4)) (mR (sI M l0 4 (mI M l1 4)) l0 5) = 14 ∧ 0 + 6 ≤ mN (sI M l0 4 (mI M l1 4)) (mR (sI M l0 4 (mI M l1 4)) l1 5) ∧ 0 + 6 ≤ mN (sI M l0 4 (mI M l1 4)) (mR (sI M l0 4 (mI M l1 4)) l0 5)) ∧ BB G d none P53 Q S53_0_55 55 [.ref l0, .ref l1] [] (rwI (sI M l0 4 (mI M l1 4)) (mR (sI M l0 4 (mI M l1 4)) l0 5) (va_cpy (mI (sI M l0 4 (mI M l1 4)) (mR (sI M l0 4 (mI M l1 4)) l1 5)) (mI (sI M l0 4 (mI M l1 4)) (mR (sI M l0 4 (mI M l1 4)) l0 5)) 0 0 6))) : BB G d none P53 Q S53_0_32 32 [.ref l0, .ref l1] [] M := ⟨h.1, ⟨h.2.1, ⟨h.2.2.1, ⟨h.2.2.2.1, ⟨⟨h.2.2.2.2.1.1, h.2.2.2.2.1.2.1, by decide, by decide, by decide, h.2.2.2.2.1.2.2.1, h.2.2.2.2.1.2.2.2, Nat.le_of_ble_eq_true rfl⟩, h.2.2.2.2.2⟩⟩⟩⟩⟩
theorem b53_0_55 {G : GG} {d : Nat} {Q : Option Value → mm_M → Prop} {l0 : Nat} {l1 : Nat} {M : mm_M} (h : mK M l1 = 7 ∧ mK M l0 = 7 ∧ (mK M (mR M l1 6) = 14 ∧ mK M (mR M l0 6) = 14 ∧ 0 + 6 ≤ mN M (mR M l1 6) ∧ 0 + 6 ≤ mN M (mR M l0 6)) ∧ BB G d none P53 Q S53_0_70 70 [.ref l0, .ref l1] [] (rwI M (mR M l0 6) (va_cpy (mI M (mR M l1 6)) (mI M (mR M l0 6)) 0 0 6))) : BB G d none P53 Q S53_0_55 55 [.ref l0, .ref l1] [] M := ⟨h.1, ⟨h.2.1, ⟨⟨h.2.2.1.1, h.2.2.1.2.1, by decide, by decide, by decide, h.2.2.1.2.2.1, h.2.2.1.2.2.2, Nat.le_of_ble_eq_true rfl⟩, h.2.2.2⟩⟩⟩
theorem b53_0_70 {G : GG} {d : Nat} {Q : Option Value → mm_M → Prop} {l0 : Nat} {l1 : Nat} {M : mm_M} (h : mK M l1 = 7 ∧ mK M l0 = 7 ∧ (mK M (mR M l1 7) = 14 ∧ mK M (mR M l0 7) = 14 ∧ 0 + 6 ≤ mN M (mR M l1 7) ∧ 0 + 6 ≤ mN M (mR M l0 7)) ∧ BB G d none P53 Q S53_0_85 85 [.ref l0, .ref l1] [] (rwI M (mR M l0 7) (va_cpy (mI M (mR M l1 7)) (mI M (mR M l0 7)) 0 0 6))) : BB G d none P53 Q S53_0_70 70 [.ref l0, .ref l1] [] M := ⟨h.1, ⟨h.2.1, ⟨⟨h.2.2.1.1, h.2.2.1.2.1, by decide, by decide, by decide, h.2.2.1.2.2.1, h.2.2.1.2.2.2, Nat.le_of_ble_eq_true rfl⟩, h.2.2.2⟩⟩⟩
theorem b53_0_85 {G : GG} {d : Nat} {Q : Option Value → mm_M → Prop} {l0 : Nat} {l1 : Nat} {M : mm_M} (h : mK M l1 = 7 ∧ mK M l0 = 7 ∧ (mK M (mR M l1 8) = 15 ∧ mK M (mR M l0 8) = 15 ∧ 0 + 6 ≤ mN M (mR M l1 8) ∧ 0 + 6 ≤ mN M (mR M l0 8)) ∧ BB G d none P53 Q S53_0_100 100 [.ref l0, .ref l1] [] (rwJ M (mR M l0 8) (va_cpy (mJ M (mR M l1 8)) (mJ M (mR M l0 8)) 0 0 6))) : BB G d none P53 Q S53_0_85 85 [.ref l0, .ref l1] [] M := ⟨h.1, ⟨h.2.1, ⟨⟨h.2.2.1.1, h.2.2.1.2.1, by decide, by decide, by decide, h.2.2.1.2.2.1, h.2.2.1.2.2.2, Nat.le_of_ble_eq_true rfl⟩, h.2.2.2⟩⟩⟩
theorem e53 {G : GG} {d : Nat} {P : mm_M → Prop} {l0 : Nat} {l1 : Nat} {M : mm_M} (h : mK M l1 = 7 ∧ mK M l0 = 7 ∧ mK (sI M l0 0 (mI M l1 0)) l1 = 7 ∧ mK (sI M l0 0 (mI M l1 0)) l0 = 7 ∧ BB G d none P53 (QV P) S53_0_16 16 [.ref l0, .ref l1] [] (sI (sI M l0 0 (mI M l1 0)) l0 1 (mI (sI M l0 0 (mI M l1 0)) l1 1))) : CV G (d + 1) 53 [.ref l0, .ref l1] M P := CV_in (nL := 2) (rt := none) (bs := P53) rfl (Nat.le_of_ble_eq_true rfl) (XX_at _ rfl ⟨h.1, ⟨h.2.1, ⟨h.2.2.1, ⟨h.2.2.2.1, h.2.2.2.2⟩⟩⟩⟩)
/- ShoeOrchard$Plan.isTree(I)Z cuts [] -/
theorem e54 {G : GG} {d : Nat} {P : Int32 → mm_M → Prop} {l0 : Nat} {l1 : Int32} {M : mm_M} (h : ifP (l1 < 0) (P (0 : Int32) M) (mK M l0 = 7 ∧ ifP ((mI M l0 0) ≤ l1) (P (0 : Int32) M) (P (1 : Int32) M))) : CI G (d + 1) 54 [.ref l0, .int l1] M P := CI_in (nL := 2) (rt := (some .boolean)) (bs := P54) rfl (Nat.le_of_ble_eq_true rfl) (XX_at _ rfl ⟨fun q1001 => (XX_at _ rfl ⟨rfl, ⟨_, rfl, (h.1 q1001)⟩⟩), fun q1001 => ⟨(h.2 q1001).1, ⟨fun q1002 => (XX_at _ rfl ⟨rfl, ⟨_, rfl, ((h.2 q1001).2.1 q1002)⟩⟩), fun q1002 => (XX_at _ rfl ⟨rfl, ⟨_, rfl, ((h.2 q1001).2.2 q1002)⟩⟩)⟩⟩⟩)
/- ShoeOrchard$Plan.frostOf(I)I cuts [] -/
theorem e55 {G : GG} {d : Nat} {P : Int32 → mm_M → Prop} {l0 : Nat} {l1 : Int32} {M : mm_M} (h : mK M l0 = 7 ∧ ifP ((mI M l0 4) < (1 : Int32)) (P (0 : Int32) M) (ifP (0 ≤ l1) (mK M l0 = 7 ∧ mK M l0 = 7 ∧ ¬ (mI M l0 4) = 0 ∧ (mK M (mR M l0 12) = 14 ∧ vp_in (l1 - l1 / (mI M l0 4) * (mI M l0 4)) (mN M (mR M l0 12))) ∧ P (mI M (mR M l0 12) ((l1 - l1 / (mI M l0 4) * (mI M l0 4)).toNatClampNeg)) M) (P (0 : Int32) M))) : CI G (d + 1) 55 [.ref l0, .int l1] M P := CI_in (nL := 2) (rt := (some .int)) (bs := P55) rfl (Nat.le_of_ble_eq_true rfl) (XX_at _ rfl ⟨h.1, ⟨fun q1001 => (XX_at _ rfl (XX_at _ rfl ⟨rfl, ⟨_, rfl, (h.2.1 q1001)⟩⟩)), fun q1001 => ⟨fun q1002 => (XX_at _ rfl ⟨((h.2.2 q1001).1 q1002).1, ⟨((h.2.2 q1001).1 q1002).2.1, ⟨((h.2.2 q1001).1 q1002).2.2.1, ⟨((h.2.2 q1001).1 q1002).2.2.2.1, ⟨rfl, ⟨_, rfl, ((h.2.2 q1001).1 q1002).2.2.2.2⟩⟩⟩⟩⟩⟩), fun q1002 => (XX_at _ rfl ⟨rfl, ⟨_, rfl, ((h.2.2 q1001).2 q1002)⟩⟩)⟩⟩⟩)
/- ShoeOrchard$Plan.standsFrost(II)Z cuts [] -/
theorem e56 {G : GG} {d : Nat} {P : Int32 → mm_M → Prop} {l0 : Nat} {l1 : Int32} {l2 : Int32} {M : mm_M} (h : mK M l0 = 7 ∧ CI G d 54 [.ref l0, .int l1] M (fun v1 N2 => ifP (v1 = 0) (P (0 : Int32) N2) (mK N2 l0 = 7 ∧ (mK N2 (mR N2 l0 5) = 14 ∧ vp_in l1 (mN N2 (mR N2 l0 5))) ∧ vp_in (mI N2 (mR N2 l0 5) l1.toNatClampNeg) 4 ∧ ifP ((xrow G.2.1 200 ((mI N2 (mR N2 l0 5) l1.toNatClampNeg).toNatClampNeg)) < l2) (P (0 : Int32) N2) (P (1 : Int32) N2)))) : CI G (d + 1) 56 [.ref l0, .int l1, .int l2] M P := CI_in (nL := 3) (rt := (some .boolean)) (bs := P56) rfl (Nat.le_of_ble_eq_true rfl) (XX_at _ rfl ⟨⟨h.1, Nat.le_of_ble_eq_true rfl⟩, ⟨Nat.le_of_ble_eq_true rfl, Nat.le_of_ble_eq_true rfl⟩, (match h.2 with | ⟨v1, N2, hc1001, hk1002⟩ => ⟨some (.int v1), N2, hc1001, ⟨fun q1003 => (XX_at _ rfl ⟨rfl, ⟨_, rfl, (hk1002.1 q1003)⟩⟩), fun q1003 => ⟨(Or.inl rfl), ⟨(hk1002.2 q1003).1, ⟨(hk1002.2 q1003).2.1, ⟨⟨Or.inr (Or.inl rfl), (hk1002.2 q1003).2.2.1⟩, ⟨fun q1004 => (XX_at _ rfl ⟨rfl, ⟨_, rfl, ((hk1002.2 q1003).2.2.2.1 q1004)⟩⟩), fun q1004 => (XX_at _ rfl ⟨rfl, ⟨_, rfl, ((hk1002.2 q1003).2.2.2.2 q1004)⟩⟩)⟩⟩⟩⟩⟩⟩⟩)⟩)
/- ShoeOrchard$Plan.sizeBy(III)I cuts [] -/
theorem e57 {G : GG} {d : Nat} {P : Int32 → mm_M → Prop} {l0 : Nat} {l1 : Int32} {l2 : Int32} {l3 : Int32} {M : mm_M} (h : mK M l0 = 7 ∧ mK M l0 = 7 ∧ CI G d 55 [.ref l0, .int l3] M (fun v1 N2 => mK N2 (mR M l0 13) = 1 ∧ CI G d 9 [.ref (mR M l0 13), .int l1, .int l2, .int v1, .int l3] N2 (fun v3 N4 => CI G d 287 [.int (40 : Int32), .int v3] N4 (fun v5 N6 => CI G d 286 [.int (0 : Int32), .int v5] N6 (fun v7 N8 => P v7 N8))))) : CI G (d + 1) 57 [.ref l0, .int l1, .int l2, .int l3] M P := CI_in (nL := 5) (rt := (some .int)) (bs := P57) rfl (Nat.le_of_ble_eq_true rfl) (XX_at _ rfl ⟨h.1, ⟨⟨h.2.1, Nat.le_of_ble_eq_true rfl⟩, ⟨Nat.le_of_ble_eq_true rfl, Nat.le_of_ble_eq_true rfl⟩, (match h.2.2 with | ⟨v1, N2, hc1001, hk1002⟩ => ⟨some (.int v1), N2, hc1001, ⟨⟨hk1002.1, Nat.le_of_ble_eq_true rfl⟩, ⟨Nat.le_of_ble_eq_true rfl, Nat.le_of_ble_eq_true rfl⟩, (match hk1002.2 with | ⟨v3, N4, hc1003, hk1004⟩ => ⟨some (.int v3), N4, hc1003, ⟨⟨Nat.le_of_ble_eq_true rfl, Nat.le_of_ble_eq_true rfl⟩, (match hk1004 with | ⟨v5, N6, hc1005, hk1006⟩ => ⟨some (.int v5), N6, hc1005, ⟨⟨Nat.le_of_ble_eq_true rfl, Nat.le_of_ble_eq_true rfl⟩, (match hk1006 with | ⟨v7, N8, hc1007, hk1008⟩ => ⟨some (.int v7), N8, hc1007, ⟨rfl, ⟨_, rfl, hk1008⟩⟩⟩)⟩⟩)⟩⟩)⟩⟩)⟩⟩)
/- ShoeOrchard$Plan.isPerson(I)Z cuts [] -/
theorem e58 {G : GG} {d : Nat} {P : Int32 → mm_M → Prop} {l0 : Nat} {l1 : Int32} {M : mm_M} (h : ifP (l1 < 0) (P (0 : Int32) M) (mK M l0 = 7 ∧ ifP ((mI M l0 1) ≤ l1) (P (0 : Int32) M) (P (1 : Int32) M))) : CI G (d + 1) 58 [.ref l0, .int l1] M P := CI_in (nL := 2) (rt := (some .boolean)) (bs := P58) rfl (Nat.le_of_ble_eq_true rfl) (XX_at _ rfl ⟨fun q1001 => (XX_at _ rfl ⟨rfl, ⟨_, rfl, (h.1 q1001)⟩⟩), fun q1001 => ⟨(h.2 q1001).1, ⟨fun q1002 => (XX_at _ rfl ⟨rfl, ⟨_, rfl, ((h.2 q1001).2.1 q1002)⟩⟩), fun q1002 => (XX_at _ rfl ⟨rfl, ⟨_, rfl, ((h.2 q1001).2.2 q1002)⟩⟩)⟩⟩⟩)
/- ShoeOrchard$Plan.pinched(III)I cuts [] -/
def S59_17_28 : List Instr := [.iload 4, .iconst 2, .if_icmp .ne 18, .iload 5, .iconst 2, .iload_n 3, .imul, .iload_n 2, .isub, .invokestatic 288, .invokestatic 287, .istore 5, .iload 4, .iconst 3, .if_icmp .ne 12, .aload_n 0, .getfield 450, .iconst 1, .iadd, .goto 7]
def S59_18_28 : List Instr := [.iload 4, .iconst 2, .if_icmp .ne 18, .iload 5, .iconst 2, .iload_n 3, .imul, .iload_n 2, .isub, .invokestatic 288, .invokestatic 287, .istore 5, .iload 4, .iconst 3, .if_icmp .ne 12, .aload_n 0, .getfield 450, .iconst 1, .iadd, .goto 7]
def S59_64_70 : List Instr := [.iconst 0, .iload 5, .iload 6, .isub, .invokestatic 286, .ireturn]
def S59_68_70 : List Instr := [.iconst 0, .iload 5, .iload 6, .isub, .invokestatic 286, .ireturn]
theorem b59_17_28 {G : GG} {d : Nat} {Q : Option Value → mm_M → Prop} {l0 : Nat} {l1 : Int32} {l2 : Int32} {l3 : Int32} {l4 : Int32} {l5 : Int32} {M : mm_M} (h : ifP (¬ l4 = (2 : Int32)) (ifP (¬ l4 = (3 : Int32)) (mK M l0 = 7 ∧ CI G d 286 [.int (0 : Int32), .int (l5 - (mI M l0 2))] M (fun v1 N2 => Q (some (.int v1)) N2)) (mK M l0 = 7 ∧ CI G d 286 [.int (0 : Int32), .int (l5 - ((mI M l0 2) + (1 : Int32)))] M (fun v3 N4 => Q (some (.int v3)) N4))) (CI G d 288 [.int (((2 : Int32) * l3) - l2)] M (fun v5 N6 => CI G d 287 [.int l5, .int v5] N6 (fun v7 N8 => ifP (¬ l4 = (3 : Int32)) (mK N8 l0 = 7 ∧ BB G d (some .int) P59 Q S59_64_70 70 [.ref l0, .int l1, .int l2, .int l3, .int l4, .int v7, .int (mI N8 l0 2)] [] N8) (mK N8 l0 = 7 ∧ BB G d (some .int) P59 Q S59_68_70 70 [.ref l0, .int l1, .int l2, .int l3, .int l4, .int v7, .int ((mI N8 l0 2) + (1 : Int32))] [] N8))))) : BB G d (some .int) P59 Q S59_17_28 28 [.ref l0, .int l1, .int l2, .int l3, .int l4, .int l5, jk] [] M := ⟨fun q1001 => (XX_at _ rfl ⟨fun q1002 => (XX_at _ rfl ⟨((h.1 q1001).1 q1002).1, ⟨⟨Nat.le_of_ble_eq_true rfl, Nat.le_of_ble_eq_true rfl⟩, (match ((h.1 q1001).1 q1002).2 with | ⟨v1, N2, hc1003, hk1004⟩ => ⟨some (.int v1), N2, hc1003, ⟨rfl, hk1004⟩⟩)⟩⟩), fun q1002 => ⟨((h.1 q1001).2 q1002).1, (XX_at _ rfl ⟨⟨Nat.le_of_ble_eq_true rfl, Nat.le_of_ble_eq_true rfl⟩, (match ((h.1 q1001).2 q1002).2 with | ⟨v3, N4, hc1005, hk1006⟩ => ⟨some (.int v3), N4, hc1005, ⟨rfl, hk1006⟩⟩)⟩)⟩⟩), fun q1001 => ⟨⟨Nat.le_of_ble_eq_true rfl, Nat.le_of_ble_eq_true rfl⟩, (match (h.2 q1001) with | ⟨v5, N6, hc1007, hk1008⟩ => ⟨some (.int v5), N6, hc1007, ⟨⟨Nat.le_of_ble_eq_true rfl, Nat.le_of_ble_eq_true rfl⟩, (match hk1008 with | ⟨v7, N8, hc1009, hk1010⟩ => ⟨some (.int v7), N8, hc1009, ⟨fun q1011 => (XX_at _ rfl ⟨(hk1010.1 q1011).1, (hk1010.1 q1011).2⟩), fun q1011 => ⟨(hk1010.2 q1011).1, (XX_at _ rfl (hk1010.2 q1011).2)⟩⟩⟩)⟩⟩)⟩⟩
theorem b59_18_28 {G : GG} {d : Nat} {Q : Option Value → mm_M → Prop} {l0 : Nat} {l1 : Int32} {l2 : Int32} {l3 : Int32} {l4 : Int32} {l5 : Int32} {M : mm_M} (h : ifP (¬ l4 = (2 : Int32)) (ifP (¬ l4 = (3 : Int32)) (mK M l0 = 7 ∧ CI G d 286 [.int (0 : Int32), .int (l5 - (mI M l0 2))] M (fun v1 N2 => Q (some (.int v1)) N2)) (mK M l0 = 7 ∧ CI G d 286 [.int (0 : Int32), .int (l5 - ((mI M l0 2) + (1 : Int32)))] M (fun v3 N4 => Q (some (.int v3)) N4))) (CI G d 288 [.int (((2 : Int32) * l3) - l2)] M (fun v5 N6 => CI G d 287 [.int l5, .int v5] N6 (fun v7 N8 => ifP (¬ l4 = (3 : Int32)) (mK N8 l0 = 7 ∧ BB G d (some .int) P59 Q S59_64_70 70 [.ref l0, .int l1, .int l2, .int l3, .int l4, .int v7, .int (mI N8 l0 2)] [] N8) (mK N8 l0 = 7 ∧ BB G d (some .int) P59 Q S59_68_70 70 [.ref l0, .int l1, .int l2, .int l3, .int l4, .int v7, .int ((mI N8 l0 2) + (1 : Int32))] [] N8))))) : BB G d (some .int) P59 Q S59_18_28 28 [.ref l0, .int l1, .int l2, .int l3, .int l4, .int l5, jk] [] M := ⟨fun q1001 => (XX_at _ rfl ⟨fun q1002 => (XX_at _ rfl ⟨((h.1 q1001).1 q1002).1, ⟨⟨Nat.le_of_ble_eq_true rfl, Nat.le_of_ble_eq_true rfl⟩, (match ((h.1 q1001).1 q1002).2 with | ⟨v1, N2, hc1003, hk1004⟩ => ⟨some (.int v1), N2, hc1003, ⟨rfl, hk1004⟩⟩)⟩⟩), fun q1002 => ⟨((h.1 q1001).2 q1002).1, (XX_at _ rfl ⟨⟨Nat.le_of_ble_eq_true rfl, Nat.le_of_ble_eq_true rfl⟩, (match ((h.1 q1001).2 q1002).2 with | ⟨v3, N4, hc1005, hk1006⟩ => ⟨some (.int v3), N4, hc1005, ⟨rfl, hk1006⟩⟩)⟩)⟩⟩), fun q1001 => ⟨⟨Nat.le_of_ble_eq_true rfl, Nat.le_of_ble_eq_true rfl⟩, (match (h.2 q1001) with | ⟨v5, N6, hc1007, hk1008⟩ => ⟨some (.int v5), N6, hc1007, ⟨⟨Nat.le_of_ble_eq_true rfl, Nat.le_of_ble_eq_true rfl⟩, (match hk1008 with | ⟨v7, N8, hc1009, hk1010⟩ => ⟨some (.int v7), N8, hc1009, ⟨fun q1011 => (XX_at _ rfl ⟨(hk1010.1 q1011).1, (hk1010.1 q1011).2⟩), fun q1011 => ⟨(hk1010.2 q1011).1, (XX_at _ rfl (hk1010.2 q1011).2)⟩⟩⟩)⟩⟩)⟩⟩
theorem b59_64_70 {G : GG} {d : Nat} {Q : Option Value → mm_M → Prop} {l0 : Nat} {l1 : Int32} {l2 : Int32} {l3 : Int32} {l4 : Int32} {l5 : Int32} {l6 : Int32} {M : mm_M} (h : CI G d 286 [.int (0 : Int32), .int (l5 - l6)] M (fun v1 N2 => Q (some (.int v1)) N2)) : BB G d (some .int) P59 Q S59_64_70 70 [.ref l0, .int l1, .int l2, .int l3, .int l4, .int l5, .int l6] [] M := ⟨⟨Nat.le_of_ble_eq_true rfl, Nat.le_of_ble_eq_true rfl⟩, (match h with | ⟨v1, N2, hc1001, hk1002⟩ => ⟨some (.int v1), N2, hc1001, ⟨rfl, hk1002⟩⟩)⟩
theorem b59_68_70 {G : GG} {d : Nat} {Q : Option Value → mm_M → Prop} {l0 : Nat} {l1 : Int32} {l2 : Int32} {l3 : Int32} {l4 : Int32} {l5 : Int32} {l6 : Int32} {M : mm_M} (h : CI G d 286 [.int (0 : Int32), .int (l5 - l6)] M (fun v1 N2 => Q (some (.int v1)) N2)) : BB G d (some .int) P59 Q S59_68_70 70 [.ref l0, .int l1, .int l2, .int l3, .int l4, .int l5, .int l6] [] M := ⟨⟨Nat.le_of_ble_eq_true rfl, Nat.le_of_ble_eq_true rfl⟩, (match h with | ⟨v1, N2, hc1001, hk1002⟩ => ⟨some (.int v1), N2, hc1001, ⟨rfl, hk1002⟩⟩)⟩
theorem e59 {G : GG} {d : Nat} {P : Int32 → mm_M → Prop} {l0 : Nat} {l1 : Int32} {l2 : Int32} {l3 : Int32} {M : mm_M} (h : mK M l0 = 7 ∧ CI G d 58 [.ref l0, .int l1] M (fun v1 N2 => ifP (v1 = 0) (CI G d 288 [.int (l3 - l2)] N2 (fun v3 N4 => BB G d (some .int) P59 (QI P) S59_17_28 28 [.ref l0, .int l1, .int l2, .int l3, .int (0 : Int32), .int v3, jk] [] N4)) (mK N2 l0 = 7 ∧ (mK N2 (mR N2 l0 9) = 14 ∧ vp_in l1 (mN N2 (mR N2 l0 9))) ∧ CI G d 288 [.int (l3 - l2)] N2 (fun v5 N6 => BB G d (some .int) P59 (QI P) S59_18_28 28 [.ref l0, .int l1, .int l2, .int l3, .int (mI N2 (mR N2 l0 9) l1.toNatClampNeg), .int v5, jk] [] N6)))) : CI G (d + 1) 59 [.ref l0, .int l1, .int l2, .int l3] M P := CI_in (nL := 7) (rt := (some .int)) (bs := P59) rfl (Nat.le_of_ble_eq_true rfl) (XX_at _ rfl ⟨⟨h.1, Nat.le_of_ble_eq_true rfl⟩, ⟨Nat.le_of_ble_eq_true rfl, Nat.le_of_ble_eq_true rfl⟩, (match h.2 with | ⟨v1, N2, hc1001, hk1002⟩ => ⟨some (.int v1), N2, hc1001, ⟨fun q1003 => (XX_at _ rfl ⟨⟨Nat.le_of_ble_eq_true rfl, Nat.le_of_ble_eq_true rfl⟩, (match (hk1002.1 q1003) with | ⟨v3, N4, hc1004, hk1005⟩ => ⟨some (.int v3), N4, hc1004, hk1005⟩)⟩), fun q1003 => ⟨(hk1002.2 q1003).1, ⟨(hk1002.2 q1003).2.1, (XX_at _ rfl ⟨⟨Nat.le_of_ble_eq_true rfl, Nat.le_of_ble_eq_true rfl⟩, (match (hk1002.2 q1003).2.2 with | ⟨v5, N6, hc1006, hk1007⟩ => ⟨some (.int v5), N6, hc1006, hk1007⟩)⟩)⟩⟩⟩⟩)⟩)
/- ShoeOrchard$Plan.roadBy(I)I cuts [] -/
theorem e60 {G : GG} {d : Nat} {P : Int32 → mm_M → Prop} {l0 : Nat} {l1 : Int32} {M : mm_M} (h : mK M l0 = 7 ∧ CI G d 54 [.ref l0, .int l1] M (fun v1 N2 => ifP (v1 = 0) (P (0 : Int32) N2) (mK N2 l0 = 7 ∧ (mK N2 (mR N2 l0 5) = 14 ∧ vp_in l1 (mN N2 (mR N2 l0 5))) ∧ vp_in (mI N2 (mR N2 l0 5) l1.toNatClampNeg) 4 ∧ P (xrow G.2.1 201 ((mI N2 (mR N2 l0 5) l1.toNatClampNeg).toNatClampNeg)) N2))) : CI G (d + 1) 60 [.ref l0, .int l1] M P := CI_in (nL := 2) (rt := (some .int)) (bs := P60) rfl (Nat.le_of_ble_eq_true rfl) (XX_at _ rfl ⟨⟨h.1, Nat.le_of_ble_eq_true rfl⟩, ⟨Nat.le_of_ble_eq_true rfl, Nat.le_of_ble_eq_true rfl⟩, (match h.2 with | ⟨v1, N2, hc1001, hk1002⟩ => ⟨some (.int v1), N2, hc1001, ⟨fun q1003 => (XX_at _ rfl ⟨rfl, ⟨_, rfl, (hk1002.1 q1003)⟩⟩), fun q1003 => ⟨(Or.inr (Or.inl rfl)), ⟨(hk1002.2 q1003).1, ⟨(hk1002.2 q1003).2.1, ⟨⟨Or.inr (Or.inr rfl), (hk1002.2 q1003).2.2.1⟩, (XX_at _ rfl ⟨rfl, ⟨_, rfl, (hk1002.2 q1003).2.2.2⟩⟩)⟩⟩⟩⟩⟩⟩)⟩)
end
section
/- ShoeOrchard$Queue.<init>()V cuts [] -/
def S61_0_20 : List Instr := [.aload_n 0, .bipush 6, .newarray .int, .putfield 518, .aload_n 0, .bipush 6, .newarray .int, .putfield 519, .aload_n 0, .bipush 6, .newarray .int, .putfield 520, .return_]
def S61_0_36 : List Instr := [.aload_n 0, .bipush 6, .newarray .int, .putfield 520, .return_]
theorem b61_0_20 {G : GG} {d : Nat} {Q : Option Value → mm_M → Prop} {l0 : Nat} {M : mm_M} (h : (mK (nw M 14 6 6) l0 = 8 ∧ (mS M) ≠ 0) ∧ (mK (nw (sR (nw M 14 6 6) l0 6 (mS M)) 14 6 6) l0 = 8 ∧ (mS (sR (nw M 14 6 6) l0 6 (mS M))) ≠ 0) ∧ BB G d none P61 Q S61_0_36 36 [.ref l0] [] (sR (nw (sR (nw M 14 6 6) l0 6 (mS M)) 14 6 6) l0 7 (mS (sR (nw M 14 6 6) l0 6 (mS M))))) : BB G d none P61 Q S61_0_20 20 [.ref l0] [] M := ⟨⟨by decide, by decide⟩, ⟨⟨h.1.1, rfl, h.1.2⟩, ⟨⟨by decide, by decide⟩, ⟨⟨h.2.1.1, rfl, h.2.1.2⟩, h.2.2⟩⟩⟩⟩
theorem b61_0_36 {G : GG} {d : Nat} {Q : Option Value → mm_M → Prop} {l0 : Nat} {M : mm_M} (h : (mK (nw M 14 6 6) l0 = 8 ∧ (mS M) ≠ 0) ∧ Q none (sR (nw M 14 6 6) l0 8 (mS M))) : BB G d none P61 Q S61_0_36 36 [.ref l0] [] M := ⟨⟨by decide, by decide⟩, ⟨⟨h.1.1, rfl, h.1.2⟩, h.2⟩⟩
theorem e61 {G : GG} {d : Nat} {P : mm_M → Prop} {l0 : Nat} {M : mm_M} (h : l0 ≠ 0 ∧ (mK (nw M 14 6 6) l0 = 8 ∧ (mS M) ≠ 0) ∧ (mK (nw (sR (nw M 14 6 6) l0 2 (mS M)) 14 6 6) l0 = 8 ∧ (mS (sR (nw M 14 6 6) l0 2 (mS M))) ≠ 0) ∧ BB G d none P61 (QV P) S61_0_20 20 [.ref l0] [] (sR (nw (sR (nw M 14 6 6) l0 2 (mS M)) 14 6 6) l0 5 (mS (sR (nw M 14 6 6) l0 2 (mS M))))) : CV G (d + 1) 61 [.ref l0] M P := CV_in (nL := 1) (rt := none) (bs := P61) rfl (Nat.le_of_ble_eq_true rfl) (XX_at _ rfl ⟨⟨h.1, Nat.le_of_ble_eq_true rfl⟩, ⟨⟨by decide, by decide⟩, ⟨⟨h.2.1.1, rfl, h.2.1.2⟩, ⟨⟨by decide, by decide⟩, ⟨⟨h.2.2.1.1, rfl, h.2.2.1.2⟩, h.2.2.2⟩⟩⟩⟩⟩)
/- ShoeOrchard$Queue.begin(II)V cuts [] -/
theorem e62 {G : GG} {d : Nat} {P : mm_M → Prop} {l0 : Nat} {l1 : Int32} {l2 : Int32} {M : mm_M} (h : mK M l0 = 8 ∧ mK (sI M l0 0 (0 : Int32)) l0 = 8 ∧ CI G d 287 [.int (6 : Int32), .int l2] (sI (sI M l0 0 (0 : Int32)) l0 3 l1) (fun v1 N2 => mK N2 l0 = 8 ∧ P (sI N2 l0 4 v1))) : CV G (d + 1) 62 [.ref l0, .int l1, .int l2] M P := CV_in (nL := 3) (rt := none) (bs := P62) rfl (Nat.le_of_ble_eq_true rfl) (XX_at _ rfl ⟨h.1, ⟨h.2.1, ⟨⟨Nat.le_of_ble_eq_true rfl, Nat.le_of_ble_eq_true rfl⟩, (match h.2.2 with | ⟨v1, N2, hc1001, hk1002⟩ => ⟨some (.int v1), N2, hc1001, ⟨hk1002.1, ⟨rfl, hk1002.2⟩⟩⟩)⟩⟩⟩)
/- ShoeOrchard$Queue.add(III)V cuts [] -/
def S63_0_29 : List Instr := [.aload_n 0, .getfield 519, .aload_n 0, .getfield 512, .iload_n 3, .iastore, .aload_n 0, .dup, .getfield 512, .iconst 1, .iadd, .putfield 512, .return_]
def S63_0_49 : List Instr := [.return_]
theorem b63_0_29 {G : GG} {d : Nat} {Q : Option Value → mm_M → Prop} {l0 : Nat} {l1 : Int32} {l2 : Int32} {l3 : Int32} {M : mm_M} (h : mK M l0 = 8 ∧ mK M l0 = 8 ∧ (mK M (mR M l0 7) = 14 ∧ vp_in (mI M l0 0) (mN M (mR M l0 7))) ∧ mK (sI M (mR M l0 7) ((mI M l0 0).toNatClampNeg) l3) l0 = 8 ∧ mK (sI M (mR M l0 7) ((mI M l0 0).toNatClampNeg) l3) l0 = 8 ∧ BB G d none P63 Q S63_0_49 49 [.ref l0, .int l1, .int l2, .int l3] [] (sI (sI M (mR M l0 7) ((mI M l0 0).toNatClampNeg) l3) l0 0 ((mI (sI M (mR M l0 7) ((mI M l0 0).toNatClampNeg) l3) l0 0) + (1 : Int32)))) : BB G d none P63 Q S63_0_29 29 [.ref l0, .int l1, .int l2, .int l3] [] M := ⟨h.1, ⟨h.2.1, ⟨h.2.2.1, ⟨h.2.2.2.1, ⟨h.2.2.2.2.1, h.2.2.2.2.2⟩⟩⟩⟩⟩
theorem b63_0_49 {G : GG} {d : Nat} {Q : Option Value → mm_M → Prop} {l0 : Nat} {l1 : Int32} {l2 : Int32} {l3 : Int32} {M : mm_M} (h : Q none M) : BB G d none P63 Q S63_0_49 49 [.ref l0, .int l1, .int l2, .int l3] [] M := h
theorem e63 {G : GG} {d : Nat} {P : mm_M → Prop} {l0 : Nat} {l1 : Int32} {l2 : Int32} {l3 : Int32} {M : mm_M} (h : mK M l0 = 8 ∧ ifP ((6 : Int32) ≤ (mI M l0 0)) (P M) (mK M l0 = 8 ∧ mK M l0 = 8 ∧ (mK M (mR M l0 5) = 14 ∧ vp_in (mI M l0 0) (mN M (mR M l0 5))) ∧ mK (sI M (mR M l0 5) ((mI M l0 0).toNatClampNeg) l1) l0 = 8 ∧ mK (sI M (mR M l0 5) ((mI M l0 0).toNatClampNeg) l1) l0 = 8 ∧ (mK (sI M (mR M l0 5) ((mI M l0 0).toNatClampNeg) l1) (mR (sI M (mR M l0 5) ((mI M l0 0).toNatClampNeg) l1) l0 6) = 14 ∧ vp_in (mI (sI M (mR M l0 5) ((mI M l0 0).toNatClampNeg) l1) l0 0) (mN (sI M (mR M l0 5) ((mI M l0 0).toNatClampNeg) l1) (mR (sI M (mR M l0 5) ((mI M l0 0).toNatClampNeg) l1) l0 6))) ∧ BB G d none P63 (QV P) S63_0_29 29 [.ref l0, .int l1, .int l2, .int l3] [] (sI (sI M (mR M l0 5) ((mI M l0 0).toNatClampNeg) l1) (mR (sI M (mR M l0 5) ((mI M l0 0).toNatClampNeg) l1) l0 6) ((mI (sI M (mR M l0 5) ((mI M l0 0).toNatClampNeg) l1) l0 0).toNatClampNeg) l2))) : CV G (d + 1) 63 [.ref l0, .int l1, .int l2, .int l3] M P := CV_in (nL := 4) (rt := none) (bs := P63) rfl (Nat.le_of_ble_eq_true rfl) (XX_at _ rfl ⟨h.1, ⟨fun q1001 => (XX_at _ rfl ⟨rfl, (h.2.1 q1001)⟩), fun q1001 => ⟨(h.2.2 q1001).1, ⟨(h.2.2 q1001).2.1, ⟨(h.2.2 q1001).2.2.1, ⟨(h.2.2 q1001).2.2.2.1, ⟨(h.2.2 q1001).2.2.2.2.1, ⟨(h.2.2 q1001).2.2.2.2.2.1, (h.2.2 q1001).2.2.2.2.2.2⟩⟩⟩⟩⟩⟩⟩⟩)
/- ShoeOrchard$Queue.solve(I)V cuts [] -/
theorem e64 {G : GG} {d : Nat} {P : mm_M → Prop} {l0 : Nat} {l1 : Int32} {M : mm_M} (h : mK M l0 = 8 ∧ mK (sI M l0 1 (-1 : Int32)) l0 = 8 ∧ CV G d 65 [.ref l0, .int (0 : Int32), .int (0 : Int32), .int l1, .int (0 : Int32)] (sI M l0 1 (-1 : Int32)) (fun N2 => P N2)) : CV G (d + 1) 64 [.ref l0, .int l1] M P := CV_in (nL := 2) (rt := none) (bs := P64) rfl (Nat.le_of_ble_eq_true rfl) (XX_at _ rfl ⟨h.1, ⟨⟨h.2.1, Nat.le_of_ble_eq_true rfl⟩, ⟨Nat.le_of_ble_eq_true rfl, Nat.le_of_ble_eq_true rfl⟩, (match h.2.2 with | ⟨N2, hc1001, hk1002⟩ => ⟨none, N2, hc1001, ⟨rfl, hk1002⟩⟩)⟩⟩)
/- ShoeOrchard$Queue.goOn(IIII)V cuts [61] -/
def S65_0_40 : List Instr := [.return_]
def S65_61_92 : List Instr := [.aload_n 0, .iload 5, .iload_n 3, .invokevirtual 66, .istore 6, .iload 6, .iconst (-1), .if_icmp .ne 7, .iload_n 3, .goto 11]
def S65_111_121 : List Instr := [.aload_n 0, .iload_n 1, .iconst 1, .iadd, .iload_n 2, .iconst 1, .iload 5, .ishl, .ior, .iload 7, .iload 6, .iconst (-1), .if_icmp .ne 8, .iload 4, .goto 7]
def S65_119_121 : List Instr := [.aload_n 0, .iload_n 1, .iconst 1, .iadd, .iload_n 2, .iconst 1, .iload 5, .ishl, .ior, .iload 7, .iload 6, .iconst (-1), .if_icmp .ne 8, .iload 4, .goto 7]
theorem b65_0_40 {G : GG} {d : Nat} {Q : Option Value → mm_M → Prop} {l0 : Nat} {l1 : Int32} {l2 : Int32} {l3 : Int32} {l4 : Int32} {M : mm_M} (h : Q none M) : BB G d none P65 Q S65_0_40 40 [.ref l0, .int l1, .int l2, .int l3, .int l4, jk, jk, jk] [] M := h
theorem b65_111_121 {G : GG} {d : Nat} {Q : Option Value → mm_M → Prop} {l0 : Nat} {l1 : Int32} {l2 : Int32} {l3 : Int32} {l4 : Int32} {l5 : Int32} {l6 : Int32} {l7 : Int32} {M : mm_M} (h : ifP (¬ l6 = (-1 : Int32)) (mK M l0 = 8 ∧ CV G d 65 [.ref l0, .int (l1 + (1 : Int32)), .int (l2 ||| ((1 : Int32) <<< (l5 &&& 31))), .int l7, .int (l4 + (1 : Int32))] M (fun N2 => XX G d none P65 Q 61 [.ref l0, .int l1, .int l2, .int l3, .int l4, .int (l5 + (1 : Int32)), jk, jk] [] N2)) (mK M l0 = 8 ∧ CV G d 65 [.ref l0, .int (l1 + (1 : Int32)), .int (l2 ||| ((1 : Int32) <<< (l5 &&& 31))), .int l7, .int l4] M (fun N4 => XX G d none P65 Q 61 [.ref l0, .int l1, .int l2, .int l3, .int l4, .int (l5 + (1 : Int32)), jk, jk] [] N4))) : BB G d none P65 Q S65_111_121 121 [.ref l0, .int l1, .int l2, .int l3, .int l4, .int l5, .int l6, .int l7] [] M := ⟨fun q1001 => (XX_at _ rfl ⟨⟨(h.1 q1001).1, Nat.le_of_ble_eq_true rfl⟩, ⟨Nat.le_of_ble_eq_true rfl, Nat.le_of_ble_eq_true rfl⟩, (match (h.1 q1001).2 with | ⟨N2, hc1002, hk1003⟩ => ⟨none, N2, hc1002, (XX_lw hk1003 ⟨Or.inl rfl, Or.inl rfl, Or.inl rfl, Or.inl rfl, Or.inl rfl, Or.inl rfl, Or.inr rfl, Or.inr rfl, trivial⟩)⟩)⟩), fun q1001 => (XX_at _ rfl ⟨⟨(h.2 q1001).1, Nat.le_of_ble_eq_true rfl⟩, ⟨Nat.le_of_ble_eq_true rfl, Nat.le_of_ble_eq_true rfl⟩, (match (h.2 q1001).2 with | ⟨N4, hc1004, hk1005⟩ => ⟨none, N4, hc1004, (XX_lw hk1005 ⟨Or.inl rfl, Or.inl rfl, Or.inl rfl, Or.inl rfl, Or.inl rfl, Or.inl rfl, Or.inr rfl, Or.inr rfl, trivial⟩)⟩)⟩)⟩
theorem b65_119_121 {G : GG} {d : Nat} {Q : Option Value → mm_M → Prop} {l0 : Nat} {l1 : Int32} {l2 : Int32} {l3 : Int32} {l4 : Int32} {l5 : Int32} {l6 : Int32} {l7 : Int32} {M : mm_M} (h : ifP (¬ l6 = (-1 : Int32)) (mK M l0 = 8 ∧ CV G d 65 [.ref l0, .int (l1 + (1 : Int32)), .int (l2 ||| ((1 : Int32) <<< (l5 &&& 31))), .int l7, .int (l4 + (1 : Int32))] M (fun N2 => XX G d none P65 Q 61 [.ref l0, .int l1, .int l2, .int l3, .int l4, .int (l5 + (1 : Int32)), jk, jk] [] N2)) (mK M l0 = 8 ∧ CV G d 65 [.ref l0, .int (l1 + (1 : Int32)), .int (l2 ||| ((1 : Int32) <<< (l5 &&& 31))), .int l7, .int l4] M (fun N4 => XX G d none P65 Q 61 [.ref l0, .int l1, .int l2, .int l3, .int l4, .int (l5 + (1 : Int32)), jk, jk] [] N4))) : BB G d none P65 Q S65_119_121 121 [.ref l0, .int l1, .int l2, .int l3, .int l4, .int l5, .int l6, .int l7] [] M := ⟨fun q1001 => (XX_at _ rfl ⟨⟨(h.1 q1001).1, Nat.le_of_ble_eq_true rfl⟩, ⟨Nat.le_of_ble_eq_true rfl, Nat.le_of_ble_eq_true rfl⟩, (match (h.1 q1001).2 with | ⟨N2, hc1002, hk1003⟩ => ⟨none, N2, hc1002, (XX_lw hk1003 ⟨Or.inl rfl, Or.inl rfl, Or.inl rfl, Or.inl rfl, Or.inl rfl, Or.inl rfl, Or.inr rfl, Or.inr rfl, trivial⟩)⟩)⟩), fun q1001 => (XX_at _ rfl ⟨⟨(h.2 q1001).1, Nat.le_of_ble_eq_true rfl⟩, ⟨Nat.le_of_ble_eq_true rfl, Nat.le_of_ble_eq_true rfl⟩, (match (h.2 q1001).2 with | ⟨N4, hc1004, hk1005⟩ => ⟨none, N4, hc1004, (XX_lw hk1005 ⟨Or.inl rfl, Or.inl rfl, Or.inl rfl, Or.inl rfl, Or.inl rfl, Or.inl rfl, Or.inr rfl, Or.inr rfl, trivial⟩)⟩)⟩)⟩
theorem b65_61_92 {G : GG} {d : Nat} {Q : Option Value → mm_M → Prop} {l0 : Nat} {l1 : Int32} {l2 : Int32} {l3 : Int32} {l4 : Int32} {l5 : Int32} {M : mm_M} (h : mK M l0 = 8 ∧ CI G d 66 [.ref l0, .int l5, .int l3] M (fun v1 N2 => ifP (¬ v1 = (-1 : Int32)) (BB G d none P65 Q S65_111_121 121 [.ref l0, .int l1, .int l2, .int l3, .int l4, .int l5, .int v1, .int (l3 &&& (((1 : Int32) <<< (v1 &&& 31)) ^^^ (-1 : Int32)))] [] N2) (BB G d none P65 Q S65_119_121 121 [.ref l0, .int l1, .int l2, .int l3, .int l4, .int l5, .int v1, .int l3] [] N2))) : BB G d none P65 Q S65_61_92 92 [.ref l0, .int l1, .int l2, .int l3, .int l4, .int l5, jk, jk] [] M := ⟨⟨h.1, Nat.le_of_ble_eq_true rfl⟩, ⟨Nat.le_of_ble_eq_true rfl, Nat.le_of_ble_eq_true rfl⟩, (match h.2 with | ⟨v1, N2, hc1001, hk1002⟩ => ⟨some (.int v1), N2, hc1001, ⟨fun q1003 => (XX_at _ rfl (hk1002.1 q1003)), fun q1003 => (XX_at _ rfl (hk1002.2 q1003))⟩⟩)⟩
theorem x65_61 {G : GG} {d : Nat} {Q : Option Value → mm_M → Prop} {l0 : Nat} {l1 : Int32} {l2 : Int32} {l3 : Int32} {l4 : Int32} {l5 : Int32} {M : mm_M} (h : mK M l0 = 8 ∧ ifP ((mI M l0 0) ≤ l5) (Q none M) (ifP (¬ ((l2 >>> (l5 &&& 31)) &&& (1 : Int32)) = 0) (XX G d none P65 Q 61 [.ref l0, .int l1, .int l2, .int l3, .int l4, .int (l5 + (1 : Int32)), jk, jk] [] M) (mK M l0 = 8 ∧ mK M l0 = 8 ∧ (mK M (mR M l0 5) = 14 ∧ vp_in l5 (mN M (mR M l0 5))) ∧ (mK M (mR M l0 8) = 14 ∧ vp_in l1 (mN M (mR M l0 8))) ∧ BB G d none P65 Q S65_61_92 92 [.ref l0, .int l1, .int l2, .int l3, .int l4, .int l5, jk, jk] [] (sI M (mR M l0 8) l1.toNatClampNeg (mI M (mR M l0 5) l5.toNatClampNeg))))) : XX G d none P65 Q 61 [.ref l0, .int l1, .int l2, .int l3, .int l4, .int l5, jk, jk] [] M := XX_at _ rfl ⟨h.1, ⟨fun q1001 => (XX_at _ rfl (h.2.1 q1001)), fun q1001 => ⟨fun q1002 => (XX_at _ rfl ((h.2.2 q1001).1 q1002)), fun q1002 => ⟨((h.2.2 q1001).2 q1002).1, ⟨((h.2.2 q1001).2 q1002).2.1, ⟨((h.2.2 q1001).2 q1002).2.2.1, ⟨((h.2.2 q1001).2 q1002).2.2.2.1, ((h.2.2 q1001).2 q1002).2.2.2.2⟩⟩⟩⟩⟩⟩⟩
theorem e65 {G : GG} {d : Nat} {P : mm_M → Prop} {l0 : Nat} {l1 : Int32} {l2 : Int32} {l3 : Int32} {l4 : Int32} {M : mm_M} (h : mK M l0 = 8 ∧ ifP (l1 < (mI M l0 0)) (mK M l0 = 8 ∧ mK M l0 = 8 ∧ ifP ((mI M l0 1) < ((l4 + (mI M l0 0)) - l1)) (XX G d none P65 (QV P) 61 [.ref l0, .int l1, .int l2, .int l3, .int l4, .int (0 : Int32), jk, jk] [] M) (P M)) (mK M l0 = 8 ∧ ifP (l4 ≤ (mI M l0 1)) (P M) (mK M l0 = 8 ∧ mK (sI M l0 1 l4) l0 = 8 ∧ mK (sI M l0 1 l4) l0 = 8 ∧ mK (sI M l0 1 l4) l0 = 8 ∧ (mK (sI M l0 1 l4) (mR (sI M l0 1 l4) l0 8) = 14 ∧ mK (sI M l0 1 l4) (mR (sI M l0 1 l4) l0 2) = 14 ∧ ¬ (mI (sI M l0 1 l4) l0 0) < 0 ∧ 0 + (mI (sI M l0 1 l4) l0 0).toNatClampNeg ≤ mN (sI M l0 1 l4) (mR (sI M l0 1 l4) l0 8) ∧ 0 + (mI (sI M l0 1 l4) l0 0).toNatClampNeg ≤ mN (sI M l0 1 l4) (mR (sI M l0 1 l4) l0 2)) ∧ BB G d none P65 (QV P) S65_0_40 40 [.ref l0, .int l1, .int l2, .int l3, .int l4, jk, jk, jk] [] (rwI (sI M l0 1 l4) (mR (sI M l0 1 l4) l0 2) (va_cpy (mI (sI M l0 1 l4) (mR (sI M l0 1 l4) l0 8)) (mI (sI M l0 1 l4) (mR (sI M l0 1 l4) l0 2)) 0 0 ((mI (sI M l0 1 l4) l0 0).toNatClampNeg)))))) : CV G (d + 1) 65 [.ref l0, .int l1, .int l2, .int l3, .int l4] M P := CV_in (nL := 8) (rt := none) (bs := P65) rfl (Nat.le_of_ble_eq_true rfl) (XX_at _ rfl ⟨h.1, ⟨fun q1001 => (XX_at _ rfl ⟨(h.2.1 q1001).1, ⟨(h.2.1 q1001).2.1, ⟨fun q1002 => (XX_at _ rfl ((h.2.1 q1001).2.2.1 q1002)), fun q1002 => ⟨rfl, ((h.2.1 q1001).2.2.2 q1002)⟩⟩⟩⟩), fun q1001 => ⟨(h.2.2 q1001).1, ⟨fun q1003 => (XX_at _ rfl ⟨rfl, ((h.2.2 q1001).2.1 q1003)⟩), fun q1003 => ⟨((h.2.2 q1001).2.2 q1003).1, ⟨((h.2.2 q1001).2.2 q1003).2.1, ⟨((h.2.2 q1001).2.2 q1003).2.2.1, ⟨((h.2.2 q1001).2.2 q1003).2.2.2.1, ⟨⟨((h.2.2 q1001).2.2 q1003).2.2.2.2.1.1, ((h.2.2 q1001).2.2 q1003).2.2.2.2.1.2.1, by decide, by decide, ((h.2.2 q1001).2.2 q1003).2.2.2.2.1.2.2.1, ((h.2.2 q1001).2.2 q1003).2.2.2.2.1.2.2.2.1, ((h.2.2 q1001).2.2 q1003).2.2.2.2.1.2.2.2.2, Nat.le_of_ble_eq_true rfl⟩, ((h.2.2 q1001).2.2 q1003).2.2.2.2.2⟩⟩⟩⟩⟩⟩⟩⟩⟩)
/- ShoeOrchard$Queue.treeFor(II)I cuts [10] -/
def S66_56_59 : List Instr := [.goto (-49)]
theorem b66_56_59 {G : GG} {d : Nat} {Q : Option Value → mm_M → Prop} {l0 : Nat} {l1 : Int32} {l2 : Int32} {l3 : Int32} {l4 : Int32} {M : mm_M} (h : XX G d (some .int) P66 Q 10 [.ref l0, .int l1, .int l2, .int l3, .int l4] [] M) : BB G d (some .int) P66 Q S66_56_59 59 [.ref l0, .int l1, .int l2, .int l3, .int l4] [] M := h
theorem x66_10 {G : GG} {d : Nat} {Q : Option Value → mm_M → Prop} {l0 : Nat} {l1 : Int32} {l2 : Int32} {l3 : Int32} {l4 : Int32} {M : mm_M} (h : mK M l0 = 8 ∧ ifP ((mI M l0 4) ≤ l4) (Q (some (.int (-1 : Int32))) M) (mK M l0 = 8 ∧ ifP ((mI M l0 3) ≤ l3) (Q (some (.int (-1 : Int32))) M) (ifP (((l2 >>> (l4 &&& 31)) &&& (1 : Int32)) = 0) (XX G d (some .int) P66 Q 10 [.ref l0, .int l1, .int l2, .int l3, .int (l4 + (1 : Int32))] [] M) (mK M l0 = 8 ∧ (mK M (mR M l0 7) = 14 ∧ vp_in l1 (mN M (mR M l0 7))) ∧ ifP ((((mI M (mR M l0 7) l1.toNatClampNeg) >>> (l4 &&& 31)) &&& (1 : Int32)) = 0) (BB G d (some .int) P66 Q S66_56_59 59 [.ref l0, .int l1, .int l2, .int (l3 + (1 : Int32)), .int (l4 + (1 : Int32))] [] M) (Q (some (.int l4)) M))))) : XX G d (some .int) P66 Q 10 [.ref l0, .int l1, .int l2, .int l3, .int l4] [] M := XX_at _ rfl ⟨h.1, ⟨fun q1001 => (XX_at _ rfl ⟨rfl, (h.2.1 q1001)⟩), fun q1001 => ⟨(h.2.2 q1001).1, ⟨fun q1002 => (XX_at _ rfl ⟨rfl, ((h.2.2 q1001).2.1 q1002)⟩), fun q1002 => ⟨fun q1003 => (XX_at _ rfl (((h.2.2 q1001).2.2 q1002).1 q1003)), fun q1003 => ⟨(((h.2.2 q1001).2.2 q1002).2 q1003).1, ⟨(((h.2.2 q1001).2.2 q1002).2 q1003).2.1, ⟨fun q1004 => (XX_at _ rfl ((((h.2.2 q1001).2.2 q1002).2 q1003).2.2.1 q1004)), fun q1004 => ⟨rfl, ((((h.2.2 q1001).2.2 q1002).2 q1003).2.2.2 q1004)⟩⟩⟩⟩⟩⟩⟩⟩⟩
theorem e66 {G : GG} {d : Nat} {P : Int32 → mm_M → Prop} {l0 : Nat} {l1 : Int32} {l2 : Int32} {M : mm_M} (h : mK M l0 = 8 ∧ (mK M (mR M l0 6) = 14 ∧ vp_in l1 (mN M (mR M l0 6))) ∧ XX G d (some .int) P66 (QI P) 10 [.ref l0, .int l1, .int l2, .int (mI M (mR M l0 6) l1.toNatClampNeg), .int (0 : Int32)] [] M) : CI G (d + 1) 66 [.ref l0, .int l1, .int l2] M P := CI_in (nL := 5) (rt := (some .int)) (bs := P66) rfl (Nat.le_of_ble_eq_true rfl) (XX_at _ rfl ⟨h.1, ⟨h.2.1, h.2.2⟩⟩)
end
section
/- ShoeOrchard$State.<init>(LShoeOrchard$Plan;)V cuts [] -/
def S67_0_20 : List Instr := [.aload_n 0, .bipush 6, .newarray .int, .putfield 579, .aload_n 0, .bipush 6, .newarray .int, .putfield 580, .aload_n 0, .bipush 6, .newarray .int, .putfield 581, .aload_n 0, .bipush 6, .newarray .int, .putfield 582, .aload_n 0, .bipush 6, .newarray .int, .putfield 583, .aload_n 0, .aload_n 1, .putfield 584, .return_]
def S67_0_36 : List Instr := [.aload_n 0, .bipush 6, .newarray .int, .putfield 581, .aload_n 0, .bipush 6, .newarray .int, .putfield 582, .aload_n 0, .bipush 6, .newarray .int, .putfield 583, .aload_n 0, .aload_n 1, .putfield 584, .return_]
def S67_0_52 : List Instr := [.aload_n 0, .bipush 6, .newarray .int, .putfield 583, .aload_n 0, .aload_n 1, .putfield 584, .return_]
theorem b67_0_20 {G : GG} {d : Nat} {Q : Option Value → mm_M → Prop} {l0 : Nat} {l1 : Nat} {M : mm_M} (h : (mK (nw M 14 6 6) l0 = 9 ∧ (mS M) ≠ 0) ∧ (mK (nw (sR (nw M 14 6 6) l0 3 (mS M)) 14 6 6) l0 = 9 ∧ (mS (sR (nw M 14 6 6) l0 3 (mS M))) ≠ 0) ∧ BB G d none P67 Q S67_0_36 36 [.ref l0, .ref l1] [] (sR (nw (sR (nw M 14 6 6) l0 3 (mS M)) 14 6 6) l0 4 (mS (sR (nw M 14 6 6) l0 3 (mS M))))) : BB G d none P67 Q S67_0_20 20 [.ref l0, .ref l1] [] M := ⟨⟨by decide, by decide⟩, ⟨⟨h.1.1, rfl, h.1.2⟩, ⟨⟨by decide, by decide⟩, ⟨⟨h.2.1.1, rfl, h.2.1.2⟩, h.2.2⟩⟩⟩⟩
theorem b67_0_36 {G : GG} {d : Nat} {Q : Option Value → mm_M → Prop} {l0 : Nat} {l1 : Nat} {M : mm_M} (h : (mK (nw M 14 6 6) l0 = 9 ∧ (mS M) ≠ 0) ∧ (mK (nw (sR (nw M 14 6 6) l0 5 (mS M)) 14 6 6) l0 = 9 ∧ (mS (sR (nw M 14 6 6) l0 5 (mS M))) ≠ 0) ∧ BB G d none P67 Q S67_0_52 52 [.ref l0, .ref l1] [] (sR (nw (sR (nw M 14 6 6) l0 5 (mS M)) 14 6 6) l0 6 (mS (sR (nw M 14 6 6) l0 5 (mS M))))) : BB G d none P67 Q S67_0_36 36 [.ref l0, .ref l1] [] M := ⟨⟨by decide, by decide⟩, ⟨⟨h.1.1, rfl, h.1.2⟩, ⟨⟨by decide, by decide⟩, ⟨⟨h.2.1.1, rfl, h.2.1.2⟩, h.2.2⟩⟩⟩⟩
theorem b67_0_52 {G : GG} {d : Nat} {Q : Option Value → mm_M → Prop} {l0 : Nat} {l1 : Nat} {M : mm_M} (h : (mK (nw M 14 6 6) l0 = 9 ∧ (mS M) ≠ 0) ∧ (mK (sR (nw M 14 6 6) l0 7 (mS M)) l0 = 9 ∧ l1 ≠ 0) ∧ Q none (sR (sR (nw M 14 6 6) l0 7 (mS M)) l0 8 l1)) : BB G d none P67 Q S67_0_52 52 [.ref l0, .ref l1] [] M := ⟨⟨by decide, by decide⟩, ⟨⟨h.1.1, rfl, h.1.2⟩, ⟨⟨h.2.1.1, rfl, h.2.1.2⟩, h.2.2⟩⟩⟩
theorem e67 {G : GG} {d : Nat} {P : mm_M → Prop} {l0 : Nat} {l1 : Nat} {M : mm_M} (h : l0 ≠ 0 ∧ (mK (nw M 14 6 6) l0 = 9 ∧ (mS M) ≠ 0) ∧ (mK (nw (sR (nw M 14 6 6) l0 1 (mS M)) 14 6 6) l0 = 9 ∧ (mS (sR (nw M 14 6 6) l0 1 (mS M))) ≠ 0) ∧ BB G d none P67 (QV P) S67_0_20 20 [.ref l0, .ref l1] [] (sR (nw (sR (nw M 14 6 6) l0 1 (mS M)) 14 6 6) l0 2 (mS (sR (nw M 14 6 6) l0 1 (mS M))))) : CV G (d + 1) 67 [.ref l0, .ref l1] M P := CV_in (nL := 2) (rt := none) (bs := P67) rfl (Nat.le_of_ble_eq_true rfl) (XX_at _ rfl ⟨⟨h.1, Nat.le_of_ble_eq_true rfl⟩, ⟨⟨by decide, by decide⟩, ⟨⟨h.2.1.1, rfl, h.2.1.2⟩, ⟨⟨by decide, by decide⟩, ⟨⟨h.2.2.1.1, rfl, h.2.2.1.2⟩, h.2.2.2⟩⟩⟩⟩⟩)
/- ShoeOrchard$State.begin()V cuts [] -/
def S68_0_23 : List Instr := [.aload_n 0, .getfield 584, .getfield 455, .iconst 0, .aload_n 0, .getfield 578, .iconst 0, .bipush 6, .invokestatic 900, .aload_n 0, .getfield 584, .getfield 458, .iconst 0, .aload_n 0, .getfield 579, .iconst 0, .bipush 6, .invokestatic 900, .aload_n 0, .getfield 583, .iconst 0, .invokestatic 284, .aload_n 0, .invokevirtual 69, .return_]
def S68_0_41 : List Instr := [.aload_n 0, .getfield 584, .getfield 458, .iconst 0, .aload_n 0, .getfield 579, .iconst 0, .bipush 6, .invokestatic 900, .aload_n 0, .getfield 583, .iconst 0, .invokestatic 284, .aload_n 0, .invokevirtual 69, .return_]
def S68_0_59 : List Instr := [.aload_n 0, .getfield 583, .iconst 0, .invokestatic 284, .aload_n 0, .invokevirtual 69, .return_]
theorem b68_0_23 {G : GG} {d : Nat} {Q : Option Value → mm_M → Prop} {l0 : Nat} {M : mm_M} (h : mK M l0 = 9 ∧ mK M (mR M l0 8) = 7 ∧ mK M l0 = 9 ∧ (mK M (mR M (mR M l0 8) 7) = 14 ∧ mK M (mR M l0 2) = 14 ∧ 0 + 6 ≤ mN M (mR M (mR M l0 8) 7) ∧ 0 + 6 ≤ mN M (mR M l0 2)) ∧ BB G d none P68 Q S68_0_41 41 [.ref l0] [] (rwI M (mR M l0 2) (va_cpy (mI M (mR M (mR M l0 8) 7)) (mI M (mR M l0 2)) 0 0 6))) : BB G d none P68 Q S68_0_23 23 [.ref l0] [] M := ⟨h.1, ⟨h.2.1, ⟨h.2.2.1, ⟨⟨h.2.2.2.1.1, h.2.2.2.1.2.1, by decide, by decide, by decide, h.2.2.2.1.2.2.1, h.2.2.2.1.2.2.2, Nat.le_of_ble_eq_true rfl⟩, h.2.2.2.2⟩⟩⟩⟩
theorem b68_0_41 {G : GG} {d : Nat} {Q : Option Value → mm_M → Prop} {l0 : Nat} {M : mm_M} (h : mK M l0 = 9 ∧ mK M (mR M l0 8) = 7 ∧ mK M l0 = 9 ∧ (mK M (mR M (mR M l0 8) 10) = 14 ∧ mK M (mR M l0 3) = 14 ∧ 0 + 6 ≤ mN M (mR M (mR M l0 8) 10) ∧ 0 + 6 ≤ mN M (mR M l0 3)) ∧ BB G d none P68 Q S68_0_59 59 [.ref l0] [] (rwI M (mR M l0 3) (va_cpy (mI M (mR M (mR M l0 8) 10)) (mI M (mR M l0 3)) 0 0 6))) : BB G d none P68 Q S68_0_41 41 [.ref l0] [] M := ⟨h.1, ⟨h.2.1, ⟨h.2.2.1, ⟨⟨h.2.2.2.1.1, h.2.2.2.1.2.1, by decide, by decide, by decide, h.2.2.2.1.2.2.1, h.2.2.2.1.2.2.2, Nat.le_of_ble_eq_true rfl⟩, h.2.2.2.2⟩⟩⟩⟩
theorem b68_0_59 {G : GG} {d : Nat} {Q : Option Value → mm_M → Prop} {l0 : Nat} {M : mm_M} (h : mK M l0 = 9 ∧ CV G d 284 [.ref (mR M l0 7), .int (0 : Int32)] M (fun N2 => mK N2 l0 = 9 ∧ CV G d 69 [.ref l0] N2 (fun N4 => Q none N4))) : BB G d none P68 Q S68_0_59 59 [.ref l0] [] M := ⟨h.1, ⟨⟨Nat.le_of_ble_eq_true rfl, Nat.le_of_ble_eq_true rfl⟩, (match h.2 with | ⟨N2, hc1001, hk1002⟩ => ⟨none, N2, hc1001, ⟨⟨hk1002.1, Nat.le_of_ble_eq_true rfl⟩, ⟨Nat.le_of_ble_eq_true rfl, Nat.le_of_ble_eq_true rfl⟩, (match hk1002.2 with | ⟨N4, hc1003, hk1004⟩ => ⟨none, N4, hc1003, hk1004⟩)⟩⟩)⟩⟩
theorem e68 {G : GG} {d : Nat} {P : mm_M → Prop} {l0 : Nat} {M : mm_M} (h : mK M l0 = 9 ∧ mK (sI M l0 0 (0 : Int32)) l0 = 9 ∧ mK (sI M l0 0 (0 : Int32)) (mR (sI M l0 0 (0 : Int32)) l0 8) = 7 ∧ mK (sI M l0 0 (0 : Int32)) l0 = 9 ∧ (mK (sI M l0 0 (0 : Int32)) (mR (sI M l0 0 (0 : Int32)) (mR (sI M l0 0 (0 : Int32)) l0 8) 6) = 14 ∧ mK (sI M l0 0 (0 : Int32)) (mR (sI M l0 0 (0 : Int32)) l0 1) = 14 ∧ 0 + 6 ≤ mN (sI M l0 0 (0 : Int32)) (mR (sI M l0 0 (0 : Int32)) (mR (sI M l0 0 (0 : Int32)) l0 8) 6) ∧ 0 + 6 ≤ mN (sI M l0 0 (0 : Int32)) (mR (sI M l0 0 (0 : Int32)) l0 1)) ∧ BB G d none P68 (QV P) S68_0_23 23 [.ref l0] [] (rwI (sI M l0 0 (0 : Int32)) (mR (sI M l0 0 (0 : Int32)) l0 1) (va_cpy (mI (sI M l0 0 (0 : Int32)) (mR (sI M l0 0 (0 : Int32)) (mR (sI M l0 0 (0 : Int32)) l0 8) 6)) (mI (sI M l0 0 (0 : Int32)) (mR (sI M l0 0 (0 : Int32)) l0 1)) 0 0 6))) : CV G (d + 1) 68 [.ref l0] M P := CV_in (nL := 1) (rt := none) (bs := P68) rfl (Nat.le_of_ble_eq_true rfl) (XX_at _ rfl ⟨h.1, ⟨h.2.1, ⟨h.2.2.1, ⟨h.2.2.2.1, ⟨⟨h.2.2.2.2.1.1, h.2.2.2.2.1.2.1, by decide, by decide, by decide, h.2.2.2.2.1.2.2.1, h.2.2.2.2.1.2.2.2, Nat.le_of_ble_eq_true rfl⟩, h.2.2.2.2.2⟩⟩⟩⟩⟩)
/- ShoeOrchard$State.beginMorning()V cuts [] -/
theorem e69 {G : GG} {d : Nat} {P : mm_M → Prop} {l0 : Nat} {M : mm_M} (h : mK M l0 = 9 ∧ CV G d 284 [.ref (mR M l0 4), .int (0 : Int32)] M (fun N2 => mK N2 l0 = 9 ∧ CV G d 284 [.ref (mR N2 l0 5), .int (-1 : Int32)] N2 (fun N4 => mK N4 l0 = 9 ∧ CV G d 284 [.ref (mR N4 l0 6), .int (-1 : Int32)] N4 (fun N6 => P N6)))) : CV G (d + 1) 69 [.ref l0] M P := CV_in (nL := 1) (rt := none) (bs := P69) rfl (Nat.le_of_ble_eq_true rfl) (XX_at _ rfl ⟨h.1, ⟨⟨Nat.le_of_ble_eq_true rfl, Nat.le_of_ble_eq_true rfl⟩, (match h.2 with | ⟨N2, hc1001, hk1002⟩ => ⟨none, N2, hc1001, ⟨hk1002.1, ⟨⟨Nat.le_of_ble_eq_true rfl, Nat.le_of_ble_eq_true rfl⟩, (match hk1002.2 with | ⟨N4, hc1003, hk1004⟩ => ⟨none, N4, hc1003, ⟨hk1004.1, ⟨⟨Nat.le_of_ble_eq_true rfl, Nat.le_of_ble_eq_true rfl⟩, (match hk1004.2 with | ⟨N6, hc1005, hk1006⟩ => ⟨none, N6, hc1005, ⟨rfl, hk1006⟩⟩)⟩⟩⟩)⟩⟩⟩)⟩⟩)
/- ShoeOrchard$State.sizeOf(I)I cuts [] -/
theorem e70 {G : GG} {d : Nat} {P : Int32 → mm_M → Prop} {l0 : Nat} {l1 : Int32} {M : mm_M} (h : mK M l0 = 9 ∧ CI G d 71 [.ref l0, .int l1] M (fun v1 N2 => ifP (v1 = 0) (P (-1 : Int32) N2) (mK N2 l0 = 9 ∧ mK N2 l0 = 9 ∧ (mK N2 (mR N2 l0 1) = 14 ∧ vp_in l1 (mN N2 (mR N2 l0 1))) ∧ mK N2 l0 = 9 ∧ (mK N2 (mR N2 l0 2) = 14 ∧ vp_in l1 (mN N2 (mR N2 l0 2))) ∧ mK N2 l0 = 9 ∧ mK N2 (mR N2 l0 8) = 7 ∧ CI G d 57 [.ref (mR N2 l0 8), .int (mI N2 (mR N2 l0 1) l1.toNatClampNeg), .int (mI N2 (mR N2 l0 2) l1.toNatClampNeg), .int (mI N2 l0 0)] N2 (fun v3 N4 => P v3 N4)))) : CI G (d + 1) 70 [.ref l0, .int l1] M P := CI_in (nL := 2) (rt := (some .int)) (bs := P70) rfl (Nat.le_of_ble_eq_true rfl) (XX_at _ rfl ⟨⟨h.1, Nat.le_of_ble_eq_true rfl⟩, ⟨Nat.le_of_ble_eq_true rfl, Nat.le_of_ble_eq_true rfl⟩, (match h.2 with | ⟨v1, N2, hc1001, hk1002⟩ => ⟨some (.int v1), N2, hc1001, ⟨fun q1003 => (XX_at _ rfl ⟨rfl, ⟨_, rfl, (hk1002.1 q1003)⟩⟩), fun q1003 => ⟨(hk1002.2 q1003).1, ⟨(hk1002.2 q1003).2.1, ⟨(hk1002.2 q1003).2.2.1, ⟨(hk1002.2 q1003).2.2.2.1, ⟨(hk1002.2 q1003).2.2.2.2.1, ⟨(hk1002.2 q1003).2.2.2.2.2.1, ⟨⟨(hk1002.2 q1003).2.2.2.2.2.2.1, Nat.le_of_ble_eq_true rfl⟩, ⟨Nat.le_of_ble_eq_true rfl, Nat.le_of_ble_eq_true rfl⟩, (match (hk1002.2 q1003).2.2.2.2.2.2.2 with | ⟨v3, N4, hc1004, hk1005⟩ => ⟨some (.int v3), N4, hc1004, (XX_at _ rfl ⟨rfl, ⟨_, rfl, hk1005⟩⟩)⟩)⟩⟩⟩⟩⟩⟩⟩⟩⟩)⟩)
/- ShoeOrchard$State.bears(I)Z cuts [] -/
theorem e71 {G : GG} {d : Nat} {P : Int32 → mm_M → Prop} {l0 : Nat} {l1 : Int32} {M : mm_M} (h : mK M l0 = 9 ∧ mK M l0 = 9 ∧ mK M l0 = 9 ∧ mK M (mR M l0 8) = 7 ∧ CI G d 55 [.ref (mR M l0 8), .int (mI M l0 0)] M (fun v1 N2 => mK N2 (mR M l0 8) = 7 ∧ CI G d 56 [.ref (mR M l0 8), .int l1, .int v1] N2 (fun v3 N4 => (v3 = 0 ∨ v3 = 1) ∧ P v3 N4))) : CI G (d + 1) 71 [.ref l0, .int l1] M P := CI_in (nL := 2) (rt := (some .boolean)) (bs := P71) rfl (Nat.le_of_ble_eq_true rfl) (XX_at _ rfl ⟨h.1, ⟨h.2.1, ⟨h.2.2.1, ⟨⟨h.2.2.2.1, Nat.le_of_ble_eq_true rfl⟩, ⟨Nat.le_of_ble_eq_true rfl, Nat.le_of_ble_eq_true rfl⟩, (match h.2.2.2.2 with | ⟨v1, N2, hc1001, hk1002⟩ => ⟨some (.int v1), N2, hc1001, ⟨⟨hk1002.1, Nat.le_of_ble_eq_true rfl⟩, ⟨Nat.le_of_ble_eq_true rfl, Nat.le_of_ble_eq_true rfl⟩, (match hk1002.2 with | ⟨v3, N4, hc1003, hk1004⟩ => ⟨some (.int v3), N4, hc1003, ⟨nb_ok hk1004.1, ⟨_, rfl, hk1004.2⟩⟩⟩)⟩⟩)⟩⟩⟩⟩)
/- ShoeOrchard$State.holders(I)I cuts [4] -/
def S72_32_38 : List Instr := [.goto (-34)]
def S72_33_38 : List Instr := [.goto (-34)]
theorem b72_32_38 {G : GG} {d : Nat} {Q : Option Value → mm_M → Prop} {l0 : Nat} {l1 : Int32} {l2 : Int32} {l3 : Int32} {M : mm_M} (h : XX G d (some .int) P72 Q 4 [.ref l0, .int l1, .int l2, .int l3] [] M) : BB G d (some .int) P72 Q S72_32_38 38 [.ref l0, .int l1, .int l2, .int l3] [] M := h
theorem b72_33_38 {G : GG} {d : Nat} {Q : Option Value → mm_M → Prop} {l0 : Nat} {l1 : Int32} {l2 : Int32} {l3 : Int32} {M : mm_M} (h : XX G d (some .int) P72 Q 4 [.ref l0, .int l1, .int l2, .int l3] [] M) : BB G d (some .int) P72 Q S72_33_38 38 [.ref l0, .int l1, .int l2, .int l3] [] M := h
theorem x72_4 {G : GG} {d : Nat} {Q : Option Value → mm_M → Prop} {l0 : Nat} {l1 : Int32} {l2 : Int32} {l3 : Int32} {M : mm_M} (h : mK M l0 = 9 ∧ mK M (mR M l0 8) = 7 ∧ ifP ((mI M (mR M l0 8) 1) ≤ l3) (Q (some (.int l2)) M) (mK M l0 = 9 ∧ (mK M (mR M l0 5) = 14 ∧ vp_in l3 (mN M (mR M l0 5))) ∧ ifP (¬ (mI M (mR M l0 5) l3.toNatClampNeg) = l1) (BB G d (some .int) P72 Q S72_32_38 38 [.ref l0, .int l1, .int (l2 ||| (0 : Int32)), .int (l3 + (1 : Int32))] [] M) (BB G d (some .int) P72 Q S72_33_38 38 [.ref l0, .int l1, .int (l2 ||| ((1 : Int32) <<< (l3 &&& 31))), .int (l3 + (1 : Int32))] [] M))) : XX G d (some .int) P72 Q 4 [.ref l0, .int l1, .int l2, .int l3] [] M := XX_at _ rfl ⟨h.1, ⟨h.2.1, ⟨fun q1001 => (XX_at _ rfl ⟨rfl, (h.2.2.1 q1001)⟩), fun q1001 => ⟨(h.2.2.2 q1001).1, ⟨(h.2.2.2 q1001).2.1, ⟨fun q1002 => (XX_at _ rfl ((h.2.2.2 q1001).2.2.1 q1002)), fun q1002 => (XX_at _ rfl ((h.2.2.2 q1001).2.2.2 q1002))⟩⟩⟩⟩⟩⟩
theorem e72 {G : GG} {d : Nat} {P : Int32 → mm_M → Prop} {l0 : Nat} {l1 : Int32} {M : mm_M} (h : XX G d (some .int) P72 (QI P) 4 [.ref l0, .int l1, .int (0 : Int32), .int (0 : Int32)] [] M) : CI G (d + 1) 72 [.ref l0, .int l1] M P := CI_in (nL := 4) (rt := (some .int)) (bs := P72) rfl (Nat.le_of_ble_eq_true rfl) (XX_at _ rfl h)
/- ShoeOrchard$State.suits(II)Z cuts [] -/
theorem e73 {G : GG} {d : Nat} {P : Int32 → mm_M → Prop} {l0 : Nat} {l1 : Int32} {l2 : Int32} {M : mm_M} (h : mK M l0 = 9 ∧ mK M (mR M l0 8) = 7 ∧ CI G d 58 [.ref (mR M l0 8), .int l1] M (fun v1 N2 => ifP (v1 = 0) (P (0 : Int32) N2) (mK N2 l0 = 9 ∧ CI G d 71 [.ref l0, .int l2] N2 (fun v3 N4 => ifP (¬ v3 = 0) (mK N4 l0 = 9 ∧ mK N4 l0 = 9 ∧ (mK N4 (mR N4 l0 1) = 14 ∧ vp_in l2 (mN N4 (mR N4 l0 1))) ∧ mK N4 l0 = 9 ∧ (mK N4 (mR N4 l0 2) = 14 ∧ vp_in l2 (mN N4 (mR N4 l0 2))) ∧ mK N4 l0 = 9 ∧ mK N4 (mR N4 l0 8) = 7 ∧ CI G d 57 [.ref (mR N4 l0 8), .int (mI N4 (mR N4 l0 1) l2.toNatClampNeg), .int (mI N4 (mR N4 l0 2) l2.toNatClampNeg), .int (mI N4 l0 0)] N4 (fun v5 N6 => mK N6 l0 = 9 ∧ mK N6 l0 = 9 ∧ (mK N6 (mR N6 l0 3) = 14 ∧ vp_in l1 (mN N6 (mR N6 l0 3))) ∧ mK N6 (mR N6 l0 8) = 7 ∧ CI G d 59 [.ref (mR N6 l0 8), .int l1, .int (mI N6 (mR N6 l0 3) l1.toNatClampNeg), .int v5] N6 (fun v7 N8 => ifP (¬ v7 = 0) (P (0 : Int32) N8) (P (1 : Int32) N8)))) (P (0 : Int32) N4))))) : CI G (d + 1) 73 [.ref l0, .int l1, .int l2] M P := CI_in (nL := 4) (rt := (some .boolean)) (bs := P73) rfl (Nat.le_of_ble_eq_true rfl) (XX_at _ rfl ⟨h.1, ⟨⟨h.2.1, Nat.le_of_ble_eq_true rfl⟩, ⟨Nat.le_of_ble_eq_true rfl, Nat.le_of_ble_eq_true rfl⟩, (match h.2.2 with | ⟨v1, N2, hc1001, hk1002⟩ => ⟨some (.int v1), N2, hc1001, ⟨fun q1003 => (XX_at _ rfl ⟨rfl, ⟨_, rfl, (hk1002.1 q1003)⟩⟩), fun q1003 => ⟨⟨(hk1002.2 q1003).1, Nat.le_of_ble_eq_true rfl⟩, ⟨Nat.le_of_ble_eq_true rfl, Nat.le_of_ble_eq_true rfl⟩, (match (hk1002.2 q1003).2 with | ⟨v3, N4, hc1004, hk1005⟩ => ⟨some (.int v3), N4, hc1004, ⟨fun q1006 => (XX_at _ rfl ⟨(hk1005.1 q1006).1, ⟨(hk1005.1 q1006).2.1, ⟨(hk1005.1 q1006).2.2.1, ⟨(hk1005.1 q1006).2.2.2.1, ⟨(hk1005.1 q1006).2.2.2.2.1, ⟨(hk1005.1 q1006).2.2.2.2.2.1, ⟨⟨(hk1005.1 q1006).2.2.2.2.2.2.1, Nat.le_of_ble_eq_true rfl⟩, ⟨Nat.le_of_ble_eq_true rfl, Nat.le_of_ble_eq_true rfl⟩, (match (hk1005.1 q1006).2.2.2.2.2.2.2 with | ⟨v5, N6, hc1007, hk1008⟩ => ⟨some (.int v5), N6, hc1007, ⟨hk1008.1, ⟨hk1008.2.1, ⟨hk1008.2.2.1, ⟨⟨hk1008.2.2.2.1, Nat.le_of_ble_eq_true rfl⟩, ⟨Nat.le_of_ble_eq_true rfl, Nat.le_of_ble_eq_true rfl⟩, (match hk1008.2.2.2.2 with | ⟨v7, N8, hc1009, hk1010⟩ => ⟨some (.int v7), N8, hc1009, ⟨fun q1011 => (XX_at _ rfl ⟨rfl, ⟨_, rfl, (hk1010.1 q1011)⟩⟩), fun q1011 => (XX_at _ rfl ⟨rfl, ⟨_, rfl, (hk1010.2 q1011)⟩⟩)⟩⟩)⟩⟩⟩⟩⟩)⟩⟩⟩⟩⟩⟩⟩), fun q1006 => ⟨rfl, ⟨_, rfl, (hk1005.2 q1006)⟩⟩⟩⟩)⟩⟩⟩)⟩⟩)
/- ShoeOrchard$State.canTry(II)Z cuts [] -/
theorem e74 {G : GG} {d : Nat} {P : Int32 → mm_M → Prop} {l0 : Nat} {l1 : Int32} {l2 : Int32} {M : mm_M} (h : mK M l0 = 9 ∧ mK M (mR M l0 8) = 7 ∧ CI G d 58 [.ref (mR M l0 8), .int l1] M (fun v1 N2 => ifP (v1 = 0) (P (0 : Int32) N2) (mK N2 l0 = 9 ∧ CI G d 71 [.ref l0, .int l2] N2 (fun v3 N4 => ifP (¬ v3 = 0) (mK N4 l0 = 9 ∧ (mK N4 (mR N4 l0 5) = 14 ∧ vp_in l1 (mN N4 (mR N4 l0 5))) ∧ ifP (¬ (mI N4 (mR N4 l0 5) l1.toNatClampNeg) = (-1 : Int32)) (P (0 : Int32) N4) (mK N4 l0 = 9 ∧ (mK N4 (mR N4 l0 4) = 14 ∧ vp_in l1 (mN N4 (mR N4 l0 4))) ∧ mK N4 l0 = 9 ∧ mK N4 (mR N4 l0 8) = 7 ∧ ifP ((mI N4 (mR N4 l0 8) 3) ≤ (mI N4 (mR N4 l0 4) l1.toNatClampNeg)) (P (0 : Int32) N4) (mK N4 l0 = 9 ∧ CI G d 72 [.ref l0, .int l2] N4 (fun v5 N6 => ifP (¬ v5 = 0) (P (0 : Int32) N6) (P (1 : Int32) N6))))) (P (0 : Int32) N4))))) : CI G (d + 1) 74 [.ref l0, .int l1, .int l2] M P := CI_in (nL := 3) (rt := (some .boolean)) (bs := P74) rfl (Nat.le_of_ble_eq_true rfl) (XX_at _ rfl ⟨h.1, ⟨⟨h.2.1, Nat.le_of_ble_eq_true rfl⟩, ⟨Nat.le_of_ble_eq_true rfl, Nat.le_of_ble_eq_true rfl⟩, (match h.2.2 with | ⟨v1, N2, hc1001, hk1002⟩ => ⟨some (.int v1), N2, hc1001, ⟨fun q1003 => (XX_at _ rfl ⟨rfl, ⟨_, rfl, (hk1002.1 q1003)⟩⟩), fun q1003 => ⟨⟨(hk1002.2 q1003).1, Nat.le_of_ble_eq_true rfl⟩, ⟨Nat.le_of_ble_eq_true rfl, Nat.le_of_ble_eq_true rfl⟩, (match (hk1002.2 q1003).2 with | ⟨v3, N4, hc1004, hk1005⟩ => ⟨some (.int v3), N4, hc1004, ⟨fun q1006 => (XX_at _ rfl ⟨(hk1005.1 q1006).1, ⟨(hk1005.1 q1006).2.1, ⟨fun q1007 => (XX_at _ rfl ⟨rfl, ⟨_, rfl, ((hk1005.1 q1006).2.2.1 q1007)⟩⟩), fun q1007 => ⟨((hk1005.1 q1006).2.2.2 q1007).1, ⟨((hk1005.1 q1006).2.2.2 q1007).2.1, ⟨((hk1005.1 q1006).2.2.2 q1007).2.2.1, ⟨((hk1005.1 q1006).2.2.2 q1007).2.2.2.1, ⟨fun q1008 => (XX_at _ rfl ⟨rfl, ⟨_, rfl, (((hk1005.1 q1006).2.2.2 q1007).2.2.2.2.1 q1008)⟩⟩), fun q1008 => ⟨⟨(((hk1005.1 q1006).2.2.2 q1007).2.2.2.2.2 q1008).1, Nat.le_of_ble_eq_true rfl⟩, ⟨Nat.le_of_ble_eq_true rfl, Nat.le_of_ble_eq_true rfl⟩, (match (((hk1005.1 q1006).2.2.2 q1007).2.2.2.2.2 q1008).2 with | ⟨v5, N6, hc1009, hk1010⟩ => ⟨some (.int v5), N6, hc1009, ⟨fun q1011 => (XX_at _ rfl ⟨rfl, ⟨_, rfl, (hk1010.1 q1011)⟩⟩), fun q1011 => (XX_at _ rfl ⟨rfl, ⟨_, rfl, (hk1010.2 q1011)⟩⟩)⟩⟩)⟩⟩⟩⟩⟩⟩⟩⟩⟩), fun q1006 => ⟨rfl, ⟨_, rfl, (hk1005.2 q1006)⟩⟩⟩⟩)⟩⟩⟩)⟩⟩)
/- ShoeOrchard$State.copy(LShoeOrchard$State;)V cuts [] -/
def S75_0_23 : List Instr := [.aload_n 1, .getfield 578, .iconst 0, .aload_n 0, .getfield 578, .iconst 0, .bipush 6, .invokestatic 900, .aload_n 1, .getfield 579, .iconst 0, .aload_n 0, .getfield 579, .iconst 0, .bipush 6, .invokestatic 900, .aload_n 1, .getfield 580, .iconst 0, .aload_n 0, .getfield 580, .iconst 0, .bipush 6, .invokestatic 900, .aload_n 1, .getfield 581, .iconst 0, .aload_n 0, .getfield 581, .iconst 0, .bipush 6, .invokestatic 900, .aload_n 1, .getfield 582, .iconst 0, .aload_n 0, .getfield 582, .iconst 0, .bipush 6, .invokestatic 900, .aload_n 1, .getfield 583, .iconst 0, .aload_n 0, .getfield 583, .iconst 0, .bipush 6, .invokestatic 900, .return_]
def S75_0_38 : List Instr := [.aload_n 1, .getfield 579, .iconst 0, .aload_n 0, .getfield 579, .iconst 0, .bipush 6, .invokestatic 900, .aload_n 1, .getfield 580, .iconst 0, .aload_n 0, .getfield 580, .iconst 0, .bipush 6, .invokestatic 900, .aload_n 1, .getfield 581, .iconst 0, .aload_n 0, .getfield 581, .iconst 0, .bipush 6, .invokestatic 900, .aload_n 1, .getfield 582, .iconst 0, .aload_n 0, .getfield 582, .iconst 0, .bipush 6, .invokestatic 900, .aload_n 1, .getfield 583, .iconst 0, .aload_n 0, .getfield 583, .iconst 0, .bipush 6, .invokestatic 900, .return_]
def S75_0_53 : List Instr := [.aload_n 1, .getfield 580, .iconst 0, .aload_n 0, .getfield 580, .iconst 0, .bipush 6, .invokestatic 900, .aload_n 1, .getfield 581, .iconst 0, .aload_n 0, .getfield 581, .iconst 0, .bipush 6, .invokestatic 900, .aload_n 1, .getfield 582, .iconst 0, .aload_n 0, .getfield 582, .iconst 0, .bipush 6, .invokestatic 900, .aload_n 1, .getfield 583, .iconst 0, .aload_n 0, .getfield 583, .iconst 0, .bipush 6, .invokestatic 900, .return_]
def S75_0_68 : List Instr := [.aload_n 1, .getfield 581, .iconst 0, .aload_n 0, .getfield 581, .iconst 0, .bipush 6, .invokestatic 900, .aload_n 1, .getfield 582, .iconst 0, .aload_n 0, .getfield 582, .iconst 0, .bipush 6, .invokestatic 900, .aload_n 1, .getfield 583, .iconst 0, .aload_n 0, .getfield 583, .iconst 0, .bipush 6, .invokestatic 900, .return_]
def S75_0_83 : List Instr := [.aload_n 1, .getfield 582, .iconst 0, .aload_n 0, .getfield 582, .iconst 0, .bipush 6, .invokestatic 900, .aload_n 1, .getfield 583, .iconst 0, .aload_n 0, .getfield 583, .iconst 0, .bipush 6, .invokestatic 900, .return_]
def S75_0_98 : List Instr := [.aload_n 1, .getfield 583, .iconst 0, .aload_n 0, .getfield 583, .iconst 0, .bipush 6, .invokestatic 900, .return_]
def S75_0_113 : List Instr := [.return_]
theorem b75_0_113 {G : GG} {d : Nat} {Q : Option Value → mm_M → Prop} {l0 : Nat} {l1 : Nat} {M : mm_M} (h : Q none M) : BB G d none P75 Q S75_0_113 113 [.ref l0, .ref l1] [] M := h
theorem b75_0_23 {G : GG} {d : Nat} {Q : Option Value → mm_M → Prop} {l0 : Nat} {l1 : Nat} {M : mm_M} (h : mK M l1 = 9 ∧ mK M l0 = 9 ∧ (mK M (mR M l1 2) = 14 ∧ mK M (mR M l0 2) = 14 ∧ 0 + 6 ≤ mN M (mR M l1 2) ∧ 0 + 6 ≤ mN M (mR M l0 2)) ∧ BB G d none P75 Q S75_0_38 38 [.ref l0, .ref l1] [] (rwI M (mR M l0 2) (va_cpy (mI M (mR M l1 2)) (mI M (mR M l0 2)) 0 0 6))) : BB G d none P75 Q S75_0_23 23 [.ref l0, .ref l1] [] M := ⟨h.1, ⟨h.2.1, ⟨⟨h.2.2.1.1, h.2.2.1.2.1, by decide, by decide, by decide, h.2.2.1.2.2.1, h.2.2.1.2.2.2, Nat.le_of_ble_eq_true rfl⟩, h.2.2.2⟩⟩⟩
theorem b75_0_38 {G : GG} {d : Nat} {Q : Option Value → mm_M → Prop} {l0 : Nat} {l1 : Nat} {M : mm_M} (h : mK M l1 = 9 ∧ mK M l0 = 9 ∧ (mK M (mR M l1 3) = 14 ∧ mK M (mR M l0 3) = 14 ∧ 0 + 6 ≤ mN M (mR M l1 3) ∧ 0 + 6 ≤ mN M (mR M l0 3)) ∧ BB G d none P75 Q S75_0_53 53 [.ref l0, .ref l1] [] (rwI M (mR M l0 3) (va_cpy (mI M (mR M l1 3)) (mI M (mR M l0 3)) 0 0 6))) : BB G d none P75 Q S75_0_38 38 [.ref l0, .ref l1] [] M := ⟨h.1, ⟨h.2.1, ⟨⟨h.2.2.1.1, h.2.2.1.2.1, by decide, by decide, by decide, h.2.2.1.2.2.1, h.2.2.1.2.2.2, Nat.le_of_ble_eq_true rfl⟩, h.2.2.2⟩⟩⟩
theorem b75_0_53 {G : GG} {d : Nat} {Q : Option Value → mm_M → Prop} {l0 : Nat} {l1 : Nat} {M : mm_M} (h : mK M l1 = 9 ∧ mK M l0 = 9 ∧ (mK M (mR M l1 4) = 14 ∧ mK M (mR M l0 4) = 14 ∧ 0 + 6 ≤ mN M (mR M l1 4) ∧ 0 + 6 ≤ mN M (mR M l0 4)) ∧ BB G d none P75 Q S75_0_68 68 [.ref l0, .ref l1] [] (rwI M (mR M l0 4) (va_cpy (mI M (mR M l1 4)) (mI M (mR M l0 4)) 0 0 6))) : BB G d none P75 Q S75_0_53 53 [.ref l0, .ref l1] [] M := ⟨h.1, ⟨h.2.1, ⟨⟨h.2.2.1.1, h.2.2.1.2.1, by decide, by decide, by decide, h.2.2.1.2.2.1, h.2.2.1.2.2.2, Nat.le_of_ble_eq_true rfl⟩, h.2.2.2⟩⟩⟩
theorem b75_0_68 {G : GG} {d : Nat} {Q : Option Value → mm_M → Prop} {l0 : Nat} {l1 : Nat} {M : mm_M} (h : mK M l1 = 9 ∧ mK M l0 = 9 ∧ (mK M (mR M l1 5) = 14 ∧ mK M (mR M l0 5) = 14 ∧ 0 + 6 ≤ mN M (mR M l1 5) ∧ 0 + 6 ≤ mN M (mR M l0 5)) ∧ BB G d none P75 Q S75_0_83 83 [.ref l0, .ref l1] [] (rwI M (mR M l0 5) (va_cpy (mI M (mR M l1 5)) (mI M (mR M l0 5)) 0 0 6))) : BB G d none P75 Q S75_0_68 68 [.ref l0, .ref l1] [] M := ⟨h.1, ⟨h.2.1, ⟨⟨h.2.2.1.1, h.2.2.1.2.1, by decide, by decide, by decide, h.2.2.1.2.2.1, h.2.2.1.2.2.2, Nat.le_of_ble_eq_true rfl⟩, h.2.2.2⟩⟩⟩
theorem b75_0_83 {G : GG} {d : Nat} {Q : Option Value → mm_M → Prop} {l0 : Nat} {l1 : Nat} {M : mm_M} (h : mK M l1 = 9 ∧ mK M l0 = 9 ∧ (mK M (mR M l1 6) = 14 ∧ mK M (mR M l0 6) = 14 ∧ 0 + 6 ≤ mN M (mR M l1 6) ∧ 0 + 6 ≤ mN M (mR M l0 6)) ∧ BB G d none P75 Q S75_0_98 98 [.ref l0, .ref l1] [] (rwI M (mR M l0 6) (va_cpy (mI M (mR M l1 6)) (mI M (mR M l0 6)) 0 0 6))) : BB G d none P75 Q S75_0_83 83 [.ref l0, .ref l1] [] M := ⟨h.1, ⟨h.2.1, ⟨⟨h.2.2.1.1, h.2.2.1.2.1, by decide, by decide, by decide, h.2.2.1.2.2.1, h.2.2.1.2.2.2, Nat.le_of_ble_eq_true rfl⟩, h.2.2.2⟩⟩⟩
theorem b75_0_98 {G : GG} {d : Nat} {Q : Option Value → mm_M → Prop} {l0 : Nat} {l1 : Nat} {M : mm_M} (h : mK M l1 = 9 ∧ mK M l0 = 9 ∧ (mK M (mR M l1 7) = 14 ∧ mK M (mR M l0 7) = 14 ∧ 0 + 6 ≤ mN M (mR M l1 7) ∧ 0 + 6 ≤ mN M (mR M l0 7)) ∧ BB G d none P75 Q S75_0_113 113 [.ref l0, .ref l1] [] (rwI M (mR M l0 7) (va_cpy (mI M (mR M l1 7)) (mI M (mR M l0 7)) 0 0 6))) : BB G d none P75 Q S75_0_98 98 [.ref l0, .ref l1] [] M := ⟨h.1, ⟨h.2.1, ⟨⟨h.2.2.1.1, h.2.2.1.2.1, by decide, by decide, by decide, h.2.2.1.2.2.1, h.2.2.1.2.2.2, Nat.le_of_ble_eq_true rfl⟩, h.2.2.2⟩⟩⟩
theorem e75 {G : GG} {d : Nat} {P : mm_M → Prop} {l0 : Nat} {l1 : Nat} {M : mm_M} (h : mK M l1 = 9 ∧ mK M l0 = 9 ∧ mK (sI M l0 0 (mI M l1 0)) l1 = 9 ∧ mK (sI M l0 0 (mI M l1 0)) l0 = 9 ∧ (mK (sI M l0 0 (mI M l1 0)) (mR (sI M l0 0 (mI M l1 0)) l1 1) = 14 ∧ mK (sI M l0 0 (mI M l1 0)) (mR (sI M l0 0 (mI M l1 0)) l0 1) = 14 ∧ 0 + 6 ≤ mN (sI M l0 0 (mI M l1 0)) (mR (sI M l0 0 (mI M l1 0)) l1 1) ∧ 0 + 6 ≤ mN (sI M l0 0 (mI M l1 0)) (mR (sI M l0 0 (mI M l1 0)) l0 1)) ∧ BB G d none P75 (QV P) S75_0_23 23 [.ref l0, .ref l1] [] (rwI (sI M l0 0 (mI M l1 0)) (mR (sI M l0 0 (mI M l1 0)) l0 1) (va_cpy (mI (sI M l0 0 (mI M l1 0)) (mR (sI M l0 0 (mI M l1 0)) l1 1)) (mI (sI M l0 0 (mI M l1 0)) (mR (sI M l0 0 (mI M l1 0)) l0 1)) 0 0 6))) : CV G (d + 1) 75 [.ref l0, .ref l1] M P := CV_in (nL := 2) (rt := none) (bs := P75) rfl (Nat.le_of_ble_eq_true rfl) (XX_at _ rfl ⟨h.1, ⟨h.2.1, ⟨h.2.2.1, ⟨h.2.2.2.1, ⟨⟨h.2.2.2.2.1.1, h.2.2.2.2.1.2.1, by decide, by decide, by decide, h.2.2.2.2.1.2.2.1, h.2.2.2.2.1.2.2.2, Nat.le_of_ble_eq_true rfl⟩, h.2.2.2.2.2⟩⟩⟩⟩⟩)
/- ShoeOrchard$State.attempt(II)Z cuts [] -/
def S76_11_21 : List Instr := [.aload_n 0, .iload_n 1, .iload_n 2, .invokevirtual 73, .ifCond .ne 5, .iconst 0, .ireturn]
theorem b76_11_21 {G : GG} {d : Nat} {Q : Option Value → mm_M → Prop} {l0 : Nat} {l1 : Int32} {l2 : Int32} {M : mm_M} (h : mK M l0 = 9 ∧ CI G d 73 [.ref l0, .int l1, .int l2] M (fun v1 N2 => ifP (¬ v1 = 0) (mK N2 l0 = 9 ∧ CV G d 77 [.ref l0, .int l1, .int l2] N2 (fun N4 => Q (some (.int (1 : Int32))) N4)) (Q (some (.int (0 : Int32))) N2))) : BB G d (some .boolean) P76 Q S76_11_21 21 [.ref l0, .int l1, .int l2] [] M := ⟨⟨h.1, Nat.le_of_ble_eq_true rfl⟩, ⟨Nat.le_of_ble_eq_true rfl, Nat.le_of_ble_eq_true rfl⟩, (match h.2 with | ⟨v1, N2, hc1001, hk1002⟩ => ⟨some (.int v1), N2, hc1001, ⟨fun q1003 => (XX_at _ rfl ⟨⟨(hk1002.1 q1003).1, Nat.le_of_ble_eq_true rfl⟩, ⟨Nat.le_of_ble_eq_true rfl, Nat.le_of_ble_eq_true rfl⟩, (match (hk1002.1 q1003).2 with | ⟨N4, hc1004, hk1005⟩ => ⟨none, N4, hc1004, ⟨rfl, hk1005⟩⟩)⟩), fun q1003 => ⟨rfl, (hk1002.2 q1003)⟩⟩⟩)⟩
theorem e76 {G : GG} {d : Nat} {P : Int32 → mm_M → Prop} {l0 : Nat} {l1 : Int32} {l2 : Int32} {M : mm_M} (h : mK M l0 = 9 ∧ CI G d 74 [.ref l0, .int l1, .int l2] M (fun v1 N2 => ifP (¬ v1 = 0) (mK N2 l0 = 9 ∧ (mK N2 (mR N2 l0 4) = 14 ∧ vp_in l1 (mN N2 (mR N2 l0 4))) ∧ (mK N2 (mR N2 l0 4) = 14 ∧ vp_in l1 (mN N2 (mR N2 l0 4))) ∧ BB G d (some .boolean) P76 (QI P) S76_11_21 21 [.ref l0, .int l1, .int l2] [] (sI N2 (mR N2 l0 4) l1.toNatClampNeg ((mI N2 (mR N2 l0 4) l1.toNatClampNeg) + (1 : Int32)))) (P (0 : Int32) N2))) : CI G (d + 1) 76 [.ref l0, .int l1, .int l2] M P := CI_in (nL := 3) (rt := (some .boolean)) (bs := P76) rfl (Nat.le_of_ble_eq_true rfl) (XX_at _ rfl ⟨⟨h.1, Nat.le_of_ble_eq_true rfl⟩, ⟨Nat.le_of_ble_eq_true rfl, Nat.le_of_ble_eq_true rfl⟩, (match h.2 with | ⟨v1, N2, hc1001, hk1002⟩ => ⟨some (.int v1), N2, hc1001, ⟨fun q1003 => (XX_at _ rfl ⟨(hk1002.1 q1003).1, ⟨(hk1002.1 q1003).2.1, ⟨(hk1002.1 q1003).2.2.1, (hk1002.1 q1003).2.2.2⟩⟩⟩), fun q1003 => ⟨rfl, ⟨_, rfl, (hk1002.2 q1003)⟩⟩⟩⟩)⟩)
/- ShoeOrchard$State.putOn(II)V cuts [] -/
def S77_0_24 : List Instr := [.return_]
theorem b77_0_24 {G : GG} {d : Nat} {Q : Option Value → mm_M → Prop} {l0 : Nat} {l1 : Int32} {l2 : Int32} {M : mm_M} (h : Q none M) : BB G d none P77 Q S77_0_24 24 [.ref l0, .int l1, .int l2] [] M := h
theorem e77 {G : GG} {d : Nat} {P : mm_M → Prop} {l0 : Nat} {l1 : Int32} {l2 : Int32} {M : mm_M} (h : mK M l0 = 9 ∧ (mK M (mR M l0 5) = 14 ∧ vp_in l1 (mN M (mR M l0 5))) ∧ mK (sI M (mR M l0 5) l1.toNatClampNeg l2) l0 = 9 ∧ (mK (sI M (mR M l0 5) l1.toNatClampNeg l2) (mR (sI M (mR M l0 5) l1.toNatClampNeg l2) l0 7) = 14 ∧ vp_in l1 (mN (sI M (mR M l0 5) l1.toNatClampNeg l2) (mR (sI M (mR M l0 5) l1.toNatClampNeg l2) l0 7))) ∧ mK (sI M (mR M l0 5) l1.toNatClampNeg l2) l0 = 9 ∧ mK (sI M (mR M l0 5) l1.toNatClampNeg l2) (mR (sI M (mR M l0 5) l1.toNatClampNeg l2) l0 8) = 7 ∧ CI G d 60 [.ref (mR (sI M (mR M l0 5) l1.toNatClampNeg l2) l0 8), .int l2] (sI M (mR M l0 5) l1.toNatClampNeg l2) (fun v1 N2 => (mK N2 (mR (sI M (mR M l0 5) l1.toNatClampNeg l2) l0 7) = 14 ∧ vp_in l1 (mN N2 (mR (sI M (mR M l0 5) l1.toNatClampNeg l2) l0 7))) ∧ BB G d none P77 (QV P) S77_0_24 24 [.ref l0, .int l1, .int l2] [] (sI N2 (mR (sI M (mR M l0 5) l1.toNatClampNeg l2) l0 7) l1.toNatClampNeg ((mI (sI M (mR M l0 5) l1.toNatClampNeg l2) (mR (sI M (mR M l0 5) l1.toNatClampNeg l2) l0 7) l1.toNatClampNeg) + v1)))) : CV G (d + 1) 77 [.ref l0, .int l1, .int l2] M P := CV_in (nL := 3) (rt := none) (bs := P77) rfl (Nat.le_of_ble_eq_true rfl) (XX_at _ rfl ⟨h.1, ⟨h.2.1, ⟨h.2.2.1, ⟨h.2.2.2.1, ⟨h.2.2.2.2.1, ⟨⟨h.2.2.2.2.2.1, Nat.le_of_ble_eq_true rfl⟩, ⟨Nat.le_of_ble_eq_true rfl, Nat.le_of_ble_eq_true rfl⟩, (match h.2.2.2.2.2.2 with | ⟨v1, N2, hc1001, hk1002⟩ => ⟨some (.int v1), N2, hc1001, ⟨hk1002.1, hk1002.2⟩⟩)⟩⟩⟩⟩⟩⟩)
/- ShoeOrchard$State.canJoin(II)Z cuts [63] -/
theorem x78_63 {G : GG} {d : Nat} {Q : Option Value → mm_M → Prop} {l0 : Nat} {l1 : Int32} {l2 : Int32} {M : mm_M} (h : Q (some (.int (0 : Int32))) M) : XX G d (some .boolean) P78 Q 63 [.ref l0, .int l1, .int l2, jk] [] M := XX_at _ rfl ⟨fun _ => (XX_at _ rfl ⟨rfl, h⟩), fun q => absurd (show (0 : Int32) = 0 by decide) q⟩
theorem e78 {G : GG} {d : Nat} {P : Int32 → mm_M → Prop} {l0 : Nat} {l1 : Int32} {l2 : Int32} {M : mm_M} (h : mK M l0 = 9 ∧ mK M (mR M l0 8) = 7 ∧ CI G d 58 [.ref (mR M l0 8), .int l1] M (fun v1 N2 => ifP (v1 = 0) (P (0 : Int32) N2) (mK N2 l0 = 9 ∧ mK N2 (mR N2 l0 8) = 7 ∧ CI G d 58 [.ref (mR N2 l0 8), .int l2] N2 (fun v3 N4 => ifP (v3 = 0) (P (0 : Int32) N4) (ifP (¬ l1 = l2) (mK N4 l0 = 9 ∧ (mK N4 (mR N4 l0 5) = 14 ∧ vp_in l1 (mN N4 (mR N4 l0 5))) ∧ ifP ((mI N4 (mR N4 l0 5) l1.toNatClampNeg) = (-1 : Int32)) (XX G d (some .boolean) P78 (QI P) 63 [.ref l0, .int l1, .int l2, jk] [] N4) (mK N4 l0 = 9 ∧ (mK N4 (mR N4 l0 6) = 14 ∧ vp_in l1 (mN N4 (mR N4 l0 6))) ∧ ifP (¬ (mI N4 (mR N4 l0 6) l1.toNatClampNeg) = (-1 : Int32)) (XX G d (some .boolean) P78 (QI P) 63 [.ref l0, .int l1, .int l2, jk] [] N4) (mK N4 l0 = 9 ∧ (mK N4 (mR N4 l0 5) = 14 ∧ vp_in l2 (mN N4 (mR N4 l0 5))) ∧ ifP (¬ (mI N4 (mR N4 l0 5) l2.toNatClampNeg) = (-1 : Int32)) (XX G d (some .boolean) P78 (QI P) 63 [.ref l0, .int l1, .int l2, jk] [] N4) (mK N4 l0 = 9 ∧ (mK N4 (mR N4 l0 5) = 14 ∧ vp_in l1 (mN N4 (mR N4 l0 5))) ∧ mK N4 l0 = 9 ∧ CI G d 73 [.ref l0, .int l2, .int (mI N4 (mR N4 l0 5) l1.toNatClampNeg)] N4 (fun v5 N6 => ifP (v5 = 0) (P (0 : Int32) N6) (P (1 : Int32) N6)))))) (P (0 : Int32) N4)))))) : CI G (d + 1) 78 [.ref l0, .int l1, .int l2] M P := CI_in (nL := 4) (rt := (some .boolean)) (bs := P78) rfl (Nat.le_of_ble_eq_true rfl) (XX_at _ rfl ⟨h.1, ⟨⟨h.2.1, Nat.le_of_ble_eq_true rfl⟩, ⟨Nat.le_of_ble_eq_true rfl, Nat.le_of_ble_eq_true rfl⟩, (match h.2.2 with | ⟨v1, N2, hc1001, hk1002⟩ => ⟨some (.int v1), N2, hc1001, ⟨fun q1003 => (XX_at _ rfl ⟨rfl, ⟨_, rfl, (hk1002.1 q1003)⟩⟩), fun q1003 => ⟨(hk1002.2 q1003).1, ⟨⟨(hk1002.2 q1003).2.1, Nat.le_of_ble_eq_true rfl⟩, ⟨Nat.le_of_ble_eq_true rfl, Nat.le_of_ble_eq_true rfl⟩, (match (hk1002.2 q1003).2.2 with | ⟨v3, N4, hc1004, hk1005⟩ => ⟨some (.int v3), N4, hc1004, ⟨fun q1006 => (XX_at _ rfl ⟨rfl, ⟨_, rfl, (hk1005.1 q1006)⟩⟩), fun q1006 => ⟨fun q1007 => (XX_at _ rfl ⟨((hk1005.2 q1006).1 q1007).1, ⟨((hk1005.2 q1006).1 q1007).2.1, ⟨fun q1008 => (((hk1005.2 q1006).1 q1007).2.2.1 q1008), fun q1008 => ⟨(((hk1005.2 q1006).1 q1007).2.2.2 q1008).1, ⟨(((hk1005.2 q1006).1 q1007).2.2.2 q1008).2.1, ⟨fun q1009 => ((((hk1005.2 q1006).1 q1007).2.2.2 q1008).2.2.1 q1009), fun q1009 => ⟨((((hk1005.2 q1006).1 q1007).2.2.2 q1008).2.2.2 q1009).1, ⟨((((hk1005.2 q1006).1 q1007).2.2.2 q1008).2.2.2 q1009).2.1, ⟨fun q1010 => (((((hk1005.2 q1006).1 q1007).2.2.2 q1008).2.2.2 q1009).2.2.1 q1010), fun q1010 => (XX_at _ rfl ⟨fun q => absurd (show (1 : Int32) = 0 from q) (by decide), fun _ => ⟨(((((hk1005.2 q1006).1 q1007).2.2.2 q1008).2.2.2 q1009).2.2.2 q1010).1, ⟨(((((hk1005.2 q1006).1 q1007).2.2.2 q1008).2.2.2 q1009).2.2.2 q1010).2.1, ⟨⟨(((((hk1005.2 q1006).1 q1007).2.2.2 q1008).2.2.2 q1009).2.2.2 q1010).2.2.1, Nat.le_of_ble_eq_true rfl⟩, ⟨Nat.le_of_ble_eq_true rfl, Nat.le_of_ble_eq_true rfl⟩, (match (((((hk1005.2 q1006).1 q1007).2.2.2 q1008).2.2.2 q1009).2.2.2 q1010).2.2.2 with | ⟨v5, N6, hc1011, hk1012⟩ => ⟨some (.int v5), N6, hc1011, ⟨fun q1013 => (XX_at _ rfl ⟨rfl, ⟨_, rfl, (hk1012.1 q1013)⟩⟩), fun q1013 => (XX_at _ rfl ⟨rfl, ⟨_, rfl, (hk1012.2 q1013)⟩⟩)⟩⟩)⟩⟩⟩⟩)⟩⟩⟩⟩⟩⟩⟩⟩⟩), fun q1007 => ⟨rfl, ⟨_, rfl, ((hk1005.2 q1006).2 q1007)⟩⟩⟩⟩⟩)⟩⟩⟩⟩)⟩⟩)
/- ShoeOrchard$State.join(II)V cuts [] -/
def S79_0_47 : List Instr := [.return_]
theorem b79_0_47 {G : GG} {d : Nat} {Q : Option Value → mm_M → Prop} {l0 : Nat} {l1 : Int32} {l2 : Int32} {M : mm_M} (h : Q none M) : BB G d none P79 Q S79_0_47 47 [.ref l0, .int l1, .int l2] [] M := h
theorem e79 {G : GG} {d : Nat} {P : mm_M → Prop} {l0 : Nat} {l1 : Int32} {l2 : Int32} {M : mm_M} (h : mK M l0 = 9 ∧ mK M (mR M l0 8) = 7 ∧ CI G d 58 [.ref (mR M l0 8), .int l1] M (fun v1 N2 => ifP (v1 = 0) (P N2) (mK N2 l0 = 9 ∧ mK N2 (mR N2 l0 8) = 7 ∧ CI G d 58 [.ref (mR N2 l0 8), .int l2] N2 (fun v3 N4 => ifP (v3 = 0) (P N4) (mK N4 l0 = 9 ∧ (mK N4 (mR N4 l0 5) = 14 ∧ vp_in l1 (mN N4 (mR N4 l0 5))) ∧ mK N4 l0 = 9 ∧ CV G d 77 [.ref l0, .int l2, .int (mI N4 (mR N4 l0 5) l1.toNatClampNeg)] N4 (fun N6 => mK N6 l0 = 9 ∧ (mK N6 (mR N6 l0 6) = 14 ∧ vp_in l1 (mN N6 (mR N6 l0 6))) ∧ mK (sI N6 (mR N6 l0 6) l1.toNatClampNeg l2) l0 = 9 ∧ (mK (sI N6 (mR N6 l0 6) l1.toNatClampNeg l2) (mR (sI N6 (mR N6 l0 6) l1.toNatClampNeg l2) l0 6) = 14 ∧ vp_in l2 (mN (sI N6 (mR N6 l0 6) l1.toNatClampNeg l2) (mR (sI N6 (mR N6 l0 6) l1.toNatClampNeg l2) l0 6))) ∧ BB G d none P79 (QV P) S79_0_47 47 [.ref l0, .int l1, .int l2] [] (sI (sI N6 (mR N6 l0 6) l1.toNatClampNeg l2) (mR (sI N6 (mR N6 l0 6) l1.toNatClampNeg l2) l0 6) l2.toNatClampNeg l1))))))) : CV G (d + 1) 79 [.ref l0, .int l1, .int l2] M P := CV_in (nL := 3) (rt := none) (bs := P79) rfl (Nat.le_of_ble_eq_true rfl) (XX_at _ rfl ⟨h.1, ⟨⟨h.2.1, Nat.le_of_ble_eq_true rfl⟩, ⟨Nat.le_of_ble_eq_true rfl, Nat.le_of_ble_eq_true rfl⟩, (match h.2.2 with | ⟨v1, N2, hc1001, hk1002⟩ => ⟨some (.int v1), N2, hc1001, ⟨fun q1003 => (XX_at _ rfl ⟨rfl, (hk1002.1 q1003)⟩), fun q1003 => ⟨(hk1002.2 q1003).1, ⟨⟨(hk1002.2 q1003).2.1, Nat.le_of_ble_eq_true rfl⟩, ⟨Nat.le_of_ble_eq_true rfl, Nat.le_of_ble_eq_true rfl⟩, (match (hk1002.2 q1003).2.2 with | ⟨v3, N4, hc1004, hk1005⟩ => ⟨some (.int v3), N4, hc1004, ⟨fun q1006 => (XX_at _ rfl ⟨rfl, (hk1005.1 q1006)⟩), fun q1006 => ⟨(hk1005.2 q1006).1, ⟨(hk1005.2 q1006).2.1, ⟨⟨(hk1005.2 q1006).2.2.1, Nat.le_of_ble_eq_true rfl⟩, ⟨Nat.le_of_ble_eq_true rfl, Nat.le_of_ble_eq_true rfl⟩, (match (hk1005.2 q1006).2.2.2 with | ⟨N6, hc1007, hk1008⟩ => ⟨none, N6, hc1007, ⟨hk1008.1, ⟨hk1008.2.1, ⟨hk1008.2.2.1, ⟨hk1008.2.2.2.1, hk1008.2.2.2.2⟩⟩⟩⟩⟩)⟩⟩⟩⟩⟩)⟩⟩⟩⟩)⟩⟩)
/- ShoeOrchard$State.blend(II)V cuts [] -/
def S80_0_43 : List Instr := [.return_]
theorem b80_0_43 {G : GG} {d : Nat} {Q : Option Value → mm_M → Prop} {l0 : Nat} {l1 : Int32} {l2 : Int32} {M : mm_M} (h : Q none M) : BB G d none P80 Q S80_0_43 43 [.ref l0, .int l1, .int l2] [] M := h
theorem e80 {G : GG} {d : Nat} {P : mm_M → Prop} {l0 : Nat} {l1 : Int32} {l2 : Int32} {M : mm_M} (h : mK M l0 = 9 ∧ mK M (mR M l0 8) = 7 ∧ CI G d 54 [.ref (mR M l0 8), .int l1] M (fun v1 N2 => ifP (v1 = 0) (P N2) (mK N2 l0 = 9 ∧ mK N2 (mR N2 l0 8) = 7 ∧ CI G d 54 [.ref (mR N2 l0 8), .int l2] N2 (fun v3 N4 => ifP (v3 = 0) (P N4) (mK N4 l0 = 9 ∧ mK N4 l0 = 9 ∧ (mK N4 (mR N4 l0 1) = 14 ∧ vp_in l1 (mN N4 (mR N4 l0 1))) ∧ mK N4 l0 = 9 ∧ (mK N4 (mR N4 l0 1) = 14 ∧ vp_in l2 (mN N4 (mR N4 l0 1))) ∧ (mK N4 (mR N4 l0 1) = 14 ∧ vp_in l1 (mN N4 (mR N4 l0 1))) ∧ BB G d none P80 (QV P) S80_0_43 43 [.ref l0, .int l1, .int l2] [] (sI N4 (mR N4 l0 1) l1.toNatClampNeg (((mI N4 (mR N4 l0 1) l1.toNatClampNeg) + (mI N4 (mR N4 l0 1) l2.toNatClampNeg)) / (2 : Int32)))))))) : CV G (d + 1) 80 [.ref l0, .int l1, .int l2] M P := CV_in (nL := 3) (rt := none) (bs := P80) rfl (Nat.le_of_ble_eq_true rfl) (XX_at _ rfl ⟨h.1, ⟨⟨h.2.1, Nat.le_of_ble_eq_true rfl⟩, ⟨Nat.le_of_ble_eq_true rfl, Nat.le_of_ble_eq_true rfl⟩, (match h.2.2 with | ⟨v1, N2, hc1001, hk1002⟩ => ⟨some (.int v1), N2, hc1001, ⟨fun q1003 => (XX_at _ rfl ⟨rfl, (hk1002.1 q1003)⟩), fun q1003 => ⟨(hk1002.2 q1003).1, ⟨⟨(hk1002.2 q1003).2.1, Nat.le_of_ble_eq_true rfl⟩, ⟨Nat.le_of_ble_eq_true rfl, Nat.le_of_ble_eq_true rfl⟩, (match (hk1002.2 q1003).2.2 with | ⟨v3, N4, hc1004, hk1005⟩ => ⟨some (.int v3), N4, hc1004, ⟨fun q1006 => (XX_at _ rfl ⟨rfl, (hk1005.1 q1006)⟩), fun q1006 => ⟨(hk1005.2 q1006).1, ⟨(hk1005.2 q1006).2.1, ⟨(hk1005.2 q1006).2.2.1, ⟨(hk1005.2 q1006).2.2.2.1, ⟨(hk1005.2 q1006).2.2.2.2.1, ⟨(by decide), ⟨(hk1005.2 q1006).2.2.2.2.2.1, (hk1005.2 q1006).2.2.2.2.2.2⟩⟩⟩⟩⟩⟩⟩⟩⟩)⟩⟩⟩⟩)⟩⟩)
/- ShoeOrchard$State.trim(I)V cuts [] -/
theorem e81 {G : GG} {d : Nat} {P : mm_M → Prop} {l0 : Nat} {l1 : Int32} {M : mm_M} (h : mK M l0 = 9 ∧ mK M (mR M l0 8) = 7 ∧ CI G d 54 [.ref (mR M l0 8), .int l1] M (fun v1 N2 => ifP (v1 = 0) (P N2) (mK N2 l0 = 9 ∧ mK N2 l0 = 9 ∧ (mK N2 (mR N2 l0 1) = 14 ∧ vp_in l1 (mN N2 (mR N2 l0 1))) ∧ CI G d 286 [.int (0 : Int32), .int ((mI N2 (mR N2 l0 1) l1.toNatClampNeg) - (1 : Int32))] N2 (fun v3 N4 => (mK N4 (mR N2 l0 1) = 14 ∧ vp_in l1 (mN N4 (mR N2 l0 1))) ∧ P (sI N4 (mR N2 l0 1) l1.toNatClampNeg v3))))) : CV G (d + 1) 81 [.ref l0, .int l1] M P := CV_in (nL := 2) (rt := none) (bs := P81) rfl (Nat.le_of_ble_eq_true rfl) (XX_at _ rfl ⟨h.1, ⟨⟨h.2.1, Nat.le_of_ble_eq_true rfl⟩, ⟨Nat.le_of_ble_eq_true rfl, Nat.le_of_ble_eq_true rfl⟩, (match h.2.2 with | ⟨v1, N2, hc1001, hk1002⟩ => ⟨some (.int v1), N2, hc1001, ⟨fun q1003 => (XX_at _ rfl ⟨rfl, (hk1002.1 q1003)⟩), fun q1003 => ⟨(hk1002.2 q1003).1, ⟨(hk1002.2 q1003).2.1, ⟨(hk1002.2 q1003).2.2.1, ⟨⟨Nat.le_of_ble_eq_true rfl, Nat.le_of_ble_eq_true rfl⟩, (match (hk1002.2 q1003).2.2.2 with | ⟨v3, N4, hc1004, hk1005⟩ => ⟨some (.int v3), N4, hc1004, ⟨hk1005.1, ⟨rfl, hk1005.2⟩⟩⟩)⟩⟩⟩⟩⟩⟩)⟩⟩)
/- ShoeOrchard$State.passYear()V cuts [] -/
theorem e82 {G : GG} {d : Nat} {P : mm_M → Prop} {l0 : Nat} {M : mm_M} (h : mK M l0 = 9 ∧ mK M l0 = 9 ∧ mK M (mR M l0 8) = 7 ∧ CI G d 55 [.ref (mR M l0 8), .int (mI M l0 0)] M (fun v1 N2 => mK N2 l0 = 9 ∧ CV G d 83 [.ref l0, .int v1] N2 (fun N4 => P N4))) : CV G (d + 1) 82 [.ref l0] M P := CV_in (nL := 1) (rt := none) (bs := P82) rfl (Nat.le_of_ble_eq_true rfl) (XX_at _ rfl ⟨h.1, ⟨h.2.1, ⟨⟨h.2.2.1, Nat.le_of_ble_eq_true rfl⟩, ⟨Nat.le_of_ble_eq_true rfl, Nat.le_of_ble_eq_true rfl⟩, (match h.2.2.2 with | ⟨v1, N2, hc1001, hk1002⟩ => ⟨some (.int v1), N2, hc1001, ⟨⟨hk1002.1, Nat.le_of_ble_eq_true rfl⟩, ⟨Nat.le_of_ble_eq_true rfl, Nat.le_of_ble_eq_true rfl⟩, (match hk1002.2 with | ⟨N4, hc1003, hk1004⟩ => ⟨none, N4, hc1003, ⟨rfl, hk1004⟩⟩)⟩⟩)⟩⟩⟩)
/- ShoeOrchard$State.passYearOf(I)V cuts [2, 57] -/
theorem x83_2 {G : GG} {d : Nat} {Q : Option Value → mm_M → Prop} {l0 : Nat} {l1 : Int32} {l2 : Int32} {M : mm_M} (h : mK M l0 = 9 ∧ mK M (mR M l0 8) = 7 ∧ ifP ((mI M (mR M l0 8) 0) ≤ l2) (XX G d none P83 Q 57 [.ref l0, .int l1, .int (0 : Int32)] [] M) (mK M l0 = 9 ∧ mK M (mR M l0 8) = 7 ∧ CI G d 56 [.ref (mR M l0 8), .int l2, .int l1] M (fun v1 N2 => ifP (¬ v1 = 0) (mK N2 l0 = 9 ∧ mK N2 l0 = 9 ∧ (mK N2 (mR N2 l0 2) = 14 ∧ vp_in l2 (mN N2 (mR N2 l0 2))) ∧ CI G d 287 [.int (99 : Int32), .int ((mI N2 (mR N2 l0 2) l2.toNatClampNeg) + (1 : Int32))] N2 (fun v3 N4 => (mK N4 (mR N2 l0 2) = 14 ∧ vp_in l2 (mN N4 (mR N2 l0 2))) ∧ XX G d none P83 Q 2 [.ref l0, .int l1, .int (l2 + (1 : Int32))] [] (sI N4 (mR N2 l0 2) l2.toNatClampNeg v3))) (mK N2 l0 = 9 ∧ CV G d 81 [.ref l0, .int l2] N2 (fun N6 => mK N6 l0 = 9 ∧ mK N6 l0 = 9 ∧ (mK N6 (mR N6 l0 2) = 14 ∧ vp_in l2 (mN N6 (mR N6 l0 2))) ∧ CI G d 287 [.int (99 : Int32), .int ((mI N6 (mR N6 l0 2) l2.toNatClampNeg) + (1 : Int32))] N6 (fun v7 N8 => (mK N8 (mR N6 l0 2) = 14 ∧ vp_in l2 (mN N8 (mR N6 l0 2))) ∧ XX G d none P83 Q 2 [.ref l0, .int l1, .int (l2 + (1 : Int32))] [] (sI N8 (mR N6 l0 2) l2.toNatClampNeg v7))))))) : XX G d none P83 Q 2 [.ref l0, .int l1, .int l2] [] M := XX_at _ rfl ⟨h.1, ⟨h.2.1, ⟨fun q1001 => (XX_at _ rfl (h.2.2.1 q1001)), fun q1001 => ⟨(h.2.2.2 q1001).1, ⟨⟨(h.2.2.2 q1001).2.1, Nat.le_of_ble_eq_true rfl⟩, ⟨Nat.le_of_ble_eq_true rfl, Nat.le_of_ble_eq_true rfl⟩, (match (h.2.2.2 q1001).2.2 with | ⟨v1, N2, hc1002, hk1003⟩ => ⟨some (.int v1), N2, hc1002, ⟨fun q1004 => (XX_at _ rfl ⟨(hk1003.1 q1004).1, ⟨(hk1003.1 q1004).2.1, ⟨(hk1003.1 q1004).2.2.1, ⟨⟨Nat.le_of_ble_eq_true rfl, Nat.le_of_ble_eq_true rfl⟩, (match (hk1003.1 q1004).2.2.2 with | ⟨v3, N4, hc1005, hk1006⟩ => ⟨some (.int v3), N4, hc1005, ⟨hk1006.1, hk1006.2⟩⟩)⟩⟩⟩⟩), fun q1004 => ⟨⟨(hk1003.2 q1004).1, Nat.le_of_ble_eq_true rfl⟩, ⟨Nat.le_of_ble_eq_true rfl, Nat.le_of_ble_eq_true rfl⟩, (match (hk1003.2 q1004).2 with | ⟨N6, hc1007, hk1008⟩ => ⟨none, N6, hc1007, ⟨hk1008.1, ⟨hk1008.2.1, ⟨hk1008.2.2.1, ⟨⟨Nat.le_of_ble_eq_true rfl, Nat.le_of_ble_eq_true rfl⟩, (match hk1008.2.2.2 with | ⟨v7, N8, hc1009, hk1010⟩ => ⟨some (.int v7), N8, hc1009, ⟨hk1010.1, hk1010.2⟩⟩)⟩⟩⟩⟩⟩)⟩⟩⟩)⟩⟩⟩⟩⟩
theorem x83_57 {G : GG} {d : Nat} {Q : Option Value → mm_M → Prop} {l0 : Nat} {l1 : Int32} {l2 : Int32} {M : mm_M} (h : mK M l0 = 9 ∧ mK M (mR M l0 8) = 7 ∧ ifP ((mI M (mR M l0 8) 1) ≤ l2) (mK M l0 = 9 ∧ CV G d 69 [.ref l0] M (fun N2 => mK N2 l0 = 9 ∧ mK N2 l0 = 9 ∧ Q none (sI N2 l0 0 ((mI N2 l0 0) + (1 : Int32))))) (mK M l0 = 9 ∧ mK M (mR M l0 8) = 7 ∧ (mK M (mR M (mR M l0 8) 9) = 14 ∧ vp_in l2 (mN M (mR M (mR M l0 8) 9))) ∧ ifP (¬ (mI M (mR M (mR M l0 8) 9) l2.toNatClampNeg) = (1 : Int32)) (XX G d none P83 Q 57 [.ref l0, .int l1, .int (l2 + (1 : Int32))] [] M) (mK M l0 = 9 ∧ mK M l0 = 9 ∧ (mK M (mR M l0 3) = 14 ∧ vp_in l2 (mN M (mR M l0 3))) ∧ CI G d 287 [.int (40 : Int32), .int ((mI M (mR M l0 3) l2.toNatClampNeg) + (2 : Int32))] M (fun v3 N4 => (mK N4 (mR M l0 3) = 14 ∧ vp_in l2 (mN N4 (mR M l0 3))) ∧ XX G d none P83 Q 57 [.ref l0, .int l1, .int (l2 + (1 : Int32))] [] (sI N4 (mR M l0 3) l2.toNatClampNeg v3))))) : XX G d none P83 Q 57 [.ref l0, .int l1, .int l2] [] M := XX_at _ rfl ⟨h.1, ⟨h.2.1, ⟨fun q1001 => (XX_at _ rfl ⟨⟨(h.2.2.1 q1001).1, Nat.le_of_ble_eq_true rfl⟩, ⟨Nat.le_of_ble_eq_true rfl, Nat.le_of_ble_eq_true rfl⟩, (match (h.2.2.1 q1001).2 with | ⟨N2, hc1002, hk1003⟩ => ⟨none, N2, hc1002, ⟨hk1003.1, ⟨hk1003.2.1, hk1003.2.2⟩⟩⟩)⟩), fun q1001 => ⟨(h.2.2.2 q1001).1, ⟨(h.2.2.2 q1001).2.1, ⟨(h.2.2.2 q1001).2.2.1, ⟨fun q1004 => (XX_at _ rfl ((h.2.2.2 q1001).2.2.2.1 q1004)), fun q1004 => ⟨((h.2.2.2 q1001).2.2.2.2 q1004).1, ⟨((h.2.2.2 q1001).2.2.2.2 q1004).2.1, ⟨((h.2.2.2 q1001).2.2.2.2 q1004).2.2.1, ⟨⟨Nat.le_of_ble_eq_true rfl, Nat.le_of_ble_eq_true rfl⟩, (match ((h.2.2.2 q1001).2.2.2.2 q1004).2.2.2 with | ⟨v3, N4, hc1005, hk1006⟩ => ⟨some (.int v3), N4, hc1005, ⟨hk1006.1, hk1006.2⟩⟩)⟩⟩⟩⟩⟩⟩⟩⟩⟩⟩⟩
theorem e83 {G : GG} {d : Nat} {P : mm_M → Prop} {l0 : Nat} {l1 : Int32} {M : mm_M} (h : XX G d none P83 (QV P) 2 [.ref l0, .int l1, .int (0 : Int32)] [] M) : CV G (d + 1) 83 [.ref l0, .int l1] M P := CV_in (nL := 3) (rt := none) (bs := P83) rfl (Nat.le_of_ble_eq_true rfl) (XX_at _ rfl h)
/- ShoeOrchard$State.allRoad()I cuts [4] -/
def S84_4_27 : List Instr := [.goto (-23)]
theorem b84_4_27 {G : GG} {d : Nat} {Q : Option Value → mm_M → Prop} {l0 : Nat} {l1 : Int32} {l2 : Int32} {M : mm_M} (h : XX G d (some .int) P84 Q 4 [.ref l0, .int l1, .int l2] [] M) : BB G d (some .int) P84 Q S84_4_27 27 [.ref l0, .int l1, .int l2] [] M := h
theorem x84_4 {G : GG} {d : Nat} {Q : Option Value → mm_M → Prop} {l0 : Nat} {l1 : Int32} {l2 : Int32} {M : mm_M} (h : mK M l0 = 9 ∧ mK M (mR M l0 8) = 7 ∧ ifP ((mI M (mR M l0 8) 1) ≤ l2) (Q (some (.int l1)) M) (mK M l0 = 9 ∧ (mK M (mR M l0 7) = 14 ∧ vp_in l2 (mN M (mR M l0 7))) ∧ BB G d (some .int) P84 Q S84_4_27 27 [.ref l0, .int (l1 + (mI M (mR M l0 7) l2.toNatClampNeg)), .int (l2 + (1 : Int32))] [] M)) : XX G d (some .int) P84 Q 4 [.ref l0, .int l1, .int l2] [] M := XX_at _ rfl ⟨h.1, ⟨h.2.1, ⟨fun q1001 => (XX_at _ rfl ⟨rfl, (h.2.2.1 q1001)⟩), fun q1001 => ⟨(h.2.2.2 q1001).1, ⟨(h.2.2.2 q1001).2.1, (h.2.2.2 q1001).2.2⟩⟩⟩⟩⟩
theorem e84 {G : GG} {d : Nat} {P : Int32 → mm_M → Prop} {l0 : Nat} {M : mm_M} (h : XX G d (some .int) P84 (QI P) 4 [.ref l0, .int (0 : Int32), .int (0 : Int32)] [] M) : CI G (d + 1) 84 [.ref l0] M P := CI_in (nL := 3) (rt := (some .int)) (bs := P84) rfl (Nat.le_of_ble_eq_true rfl) (XX_at _ rfl h)
/- ShoeOrchard$State.bearingTrees()I cuts [4] -/
def S85_30_36 : List Instr := [.goto (-32)]
def S85_31_36 : List Instr := [.goto (-32)]
theorem b85_30_36 {G : GG} {d : Nat} {Q : Option Value → mm_M → Prop} {l0 : Nat} {l1 : Int32} {l2 : Int32} {M : mm_M} (h : XX G d (some .int) P85 Q 4 [.ref l0, .int l1, .int l2] [] M) : BB G d (some .int) P85 Q S85_30_36 36 [.ref l0, .int l1, .int l2] [] M := h
theorem b85_31_36 {G : GG} {d : Nat} {Q : Option Value → mm_M → Prop} {l0 : Nat} {l1 : Int32} {l2 : Int32} {M : mm_M} (h : XX G d (some .int) P85 Q 4 [.ref l0, .int l1, .int l2] [] M) : BB G d (some .int) P85 Q S85_31_36 36 [.ref l0, .int l1, .int l2] [] M := h
theorem x85_4 {G : GG} {d : Nat} {Q : Option Value → mm_M → Prop} {l0 : Nat} {l1 : Int32} {l2 : Int32} {M : mm_M} (h : mK M l0 = 9 ∧ mK M (mR M l0 8) = 7 ∧ ifP ((mI M (mR M l0 8) 0) ≤ l2) (Q (some (.int l1)) M) (mK M l0 = 9 ∧ CI G d 71 [.ref l0, .int l2] M (fun v1 N2 => ifP (v1 = 0) (BB G d (some .int) P85 Q S85_30_36 36 [.ref l0, .int (l1 ||| (0 : Int32)), .int (l2 + (1 : Int32))] [] N2) (BB G d (some .int) P85 Q S85_31_36 36 [.ref l0, .int (l1 ||| ((1 : Int32) <<< (l2 &&& 31))), .int (l2 + (1 : Int32))] [] N2)))) : XX G d (some .int) P85 Q 4 [.ref l0, .int l1, .int l2] [] M := XX_at _ rfl ⟨h.1, ⟨h.2.1, ⟨fun q1001 => (XX_at _ rfl ⟨rfl, (h.2.2.1 q1001)⟩), fun q1001 => ⟨⟨(h.2.2.2 q1001).1, Nat.le_of_ble_eq_true rfl⟩, ⟨Nat.le_of_ble_eq_true rfl, Nat.le_of_ble_eq_true rfl⟩, (match (h.2.2.2 q1001).2 with | ⟨v1, N2, hc1002, hk1003⟩ => ⟨some (.int v1), N2, hc1002, ⟨fun q1004 => (XX_at _ rfl (hk1003.1 q1004)), fun q1004 => (XX_at _ rfl (hk1003.2 q1004))⟩⟩)⟩⟩⟩⟩
theorem e85 {G : GG} {d : Nat} {P : Int32 → mm_M → Prop} {l0 : Nat} {M : mm_M} (h : XX G d (some .int) P85 (QI P) 4 [.ref l0, .int (0 : Int32), .int (0 : Int32)] [] M) : CI G (d + 1) 85 [.ref l0] M P := CI_in (nL := 3) (rt := (some .int)) (bs := P85) rfl (Nat.le_of_ble_eq_true rfl) (XX_at _ rfl h)
/- ShoeOrchard$State.shodPersons()I cuts [4] -/
def S86_32_38 : List Instr := [.goto (-34)]
def S86_33_38 : List Instr := [.goto (-34)]
theorem b86_32_38 {G : GG} {d : Nat} {Q : Option Value → mm_M → Prop} {l0 : Nat} {l1 : Int32} {l2 : Int32} {M : mm_M} (h : XX G d (some .int) P86 Q 4 [.ref l0, .int l1, .int l2] [] M) : BB G d (some .int) P86 Q S86_32_38 38 [.ref l0, .int l1, .int l2] [] M := h
theorem b86_33_38 {G : GG} {d : Nat} {Q : Option Value → mm_M → Prop} {l0 : Nat} {l1 : Int32} {l2 : Int32} {M : mm_M} (h : XX G d (some .int) P86 Q 4 [.ref l0, .int l1, .int l2] [] M) : BB G d (some .int) P86 Q S86_33_38 38 [.ref l0, .int l1, .int l2] [] M := h
theorem x86_4 {G : GG} {d : Nat} {Q : Option Value → mm_M → Prop} {l0 : Nat} {l1 : Int32} {l2 : Int32} {M : mm_M} (h : mK M l0 = 9 ∧ mK M (mR M l0 8) = 7 ∧ ifP ((mI M (mR M l0 8) 1) ≤ l2) (Q (some (.int l1)) M) (mK M l0 = 9 ∧ (mK M (mR M l0 5) = 14 ∧ vp_in l2 (mN M (mR M l0 5))) ∧ ifP ((mI M (mR M l0 5) l2.toNatClampNeg) = (-1 : Int32)) (BB G d (some .int) P86 Q S86_32_38 38 [.ref l0, .int (l1 ||| (0 : Int32)), .int (l2 + (1 : Int32))] [] M) (BB G d (some .int) P86 Q S86_33_38 38 [.ref l0, .int (l1 ||| ((1 : Int32) <<< (l2 &&& 31))), .int (l2 + (1 : Int32))] [] M))) : XX G d (some .int) P86 Q 4 [.ref l0, .int l1, .int l2] [] M := XX_at _ rfl ⟨h.1, ⟨h.2.1, ⟨fun q1001 => (XX_at _ rfl ⟨rfl, (h.2.2.1 q1001)⟩), fun q1001 => ⟨(h.2.2.2 q1001).1, ⟨(h.2.2.2 q1001).2.1, ⟨fun q1002 => (XX_at _ rfl ((h.2.2.2 q1001).2.2.1 q1002)), fun q1002 => (XX_at _ rfl ((h.2.2.2 q1001).2.2.2 q1002))⟩⟩⟩⟩⟩⟩
theorem e86 {G : GG} {d : Nat} {P : Int32 → mm_M → Prop} {l0 : Nat} {M : mm_M} (h : XX G d (some .int) P86 (QI P) 4 [.ref l0, .int (0 : Int32), .int (0 : Int32)] [] M) : CI G (d + 1) 86 [.ref l0] M P := CI_in (nL := 3) (rt := (some .int)) (bs := P86) rfl (Nat.le_of_ble_eq_true rfl) (XX_at _ rfl h)
end
section
/- ShoeOrchard$Tape.<init>()V cuts [] -/
theorem e87 {G : GG} {d : Nat} {P : mm_M → Prop} {l0 : Nat} {M : mm_M} (h : l0 ≠ 0 ∧ (mK (nw M 13 1000 1000) l0 = 10 ∧ (mS M) ≠ 0) ∧ P (sR (nw M 13 1000 1000) l0 5 (mS M))) : CV G (d + 1) 87 [.ref l0] M P := CV_in (nL := 1) (rt := none) (bs := P87) rfl (Nat.le_of_ble_eq_true rfl) (XX_at _ rfl ⟨⟨h.1, Nat.le_of_ble_eq_true rfl⟩, ⟨⟨by decide, by decide⟩, ⟨⟨h.2.1.1, rfl, h.2.1.2⟩, ⟨rfl, h.2.2⟩⟩⟩⟩)
/- ShoeOrchard$Tape.add(I)V cuts [] -/
def S88_23_49 : List Instr := [.aload_n 0, .dup, .getfield 640, .iconst 1, .iadd, .putfield 640, .return_]
theorem b88_23_49 {G : GG} {d : Nat} {Q : Option Value → mm_M → Prop} {l0 : Nat} {l1 : Int32} {l2 : Int32} {M : mm_M} (h : mK M l0 = 10 ∧ mK M l0 = 10 ∧ Q none (sI M l0 0 ((mI M l0 0) + (1 : Int32)))) : BB G d none P88 Q S88_23_49 49 [.ref l0, .int l1, .int l2] [] M := ⟨h.1, ⟨h.2.1, h.2.2⟩⟩
theorem e88 {G : GG} {d : Nat} {P : mm_M → Prop} {l0 : Nat} {l1 : Int32} {M : mm_M} (h : ifP (l1 = (10 : Int32)) (mK M l0 = 10 ∧ ifP ((1000 : Int32) ≤ (mI M l0 0)) (P M) (mK M l0 = 10 ∧ mK M l0 = 10 ∧ (mK M (mR M l0 5) = 13 ∧ vp_in (mI M l0 0) (mN M (mR M l0 5))) ∧ BB G d none P88 (QV P) S88_23_49 49 [.ref l0, .int l1, .int (1 : Int32)] [] (sI M (mR M l0 5) ((mI M l0 0).toNatClampNeg) (vp_nar .char ((l1.toUInt32 % 65536).toInt32))))) (ifP (l1 < (32 : Int32)) (P M) (ifP ((126 : Int32) < l1) (P M) (mK M l0 = 10 ∧ ifP ((1000 : Int32) ≤ (mI M l0 0)) (P M) (mK M l0 = 10 ∧ mK M l0 = 10 ∧ (mK M (mR M l0 5) = 13 ∧ vp_in (mI M l0 0) (mN M (mR M l0 5))) ∧ BB G d none P88 (QV P) S88_23_49 49 [.ref l0, .int l1, .int (1 : Int32)] [] (sI M (mR M l0 5) ((mI M l0 0).toNatClampNeg) (vp_nar .char ((l1.toUInt32 % 65536).toInt32)))))))) : CV G (d + 1) 88 [.ref l0, .int l1] M P := CV_in (nL := 3) (rt := none) (bs := P88) rfl (Nat.le_of_ble_eq_true rfl) (XX_at _ rfl ⟨fun q1001 => (XX_at _ rfl (XX_at _ rfl ⟨fun q => absurd (show (1 : Int32) = 0 from q) (by decide), fun _ => ⟨(h.1 q1001).1, ⟨fun q1002 => (XX_at _ rfl ⟨rfl, ((h.1 q1001).2.1 q1002)⟩), fun q1002 => ⟨((h.1 q1001).2.2 q1002).1, ⟨((h.1 q1001).2.2 q1002).2.1, ⟨((h.1 q1001).2.2 q1002).2.2.1, ((h.1 q1001).2.2 q1002).2.2.2⟩⟩⟩⟩⟩⟩)), fun q1001 => ⟨fun q1003 => (XX_at _ rfl ⟨fun _ => (XX_at _ rfl ⟨rfl, ((h.2 q1001).1 q1003)⟩), fun q => absurd (show (0 : Int32) = 0 by decide) q⟩), fun q1003 => ⟨fun q1004 => (XX_at _ rfl ⟨fun _ => (XX_at _ rfl ⟨rfl, (((h.2 q1001).2 q1003).1 q1004)⟩), fun q => absurd (show (0 : Int32) = 0 by decide) q⟩), fun q1004 => (XX_at _ rfl ⟨fun q => absurd (show (1 : Int32) = 0 from q) (by decide), fun _ => ⟨(((h.2 q1001).2 q1003).2 q1004).1, ⟨fun q1005 => (XX_at _ rfl ⟨rfl, ((((h.2 q1001).2 q1003).2 q1004).2.1 q1005)⟩), fun q1005 => ⟨((((h.2 q1001).2 q1003).2 q1004).2.2 q1005).1, ⟨((((h.2 q1001).2 q1003).2 q1004).2.2 q1005).2.1, ⟨((((h.2 q1001).2 q1003).2 q1004).2.2 q1005).2.2.1, ((((h.2 q1001).2 q1003).2 q1004).2.2 q1005).2.2.2⟩⟩⟩⟩⟩⟩)⟩⟩⟩)
/- ShoeOrchard$Tape.beginReading()V cuts [] -/
theorem e89 {G : GG} {d : Nat} {P : mm_M → Prop} {l0 : Nat} {M : mm_M} (h : mK M l0 = 10 ∧ mK (sI M l0 8 (0 : Int32)) l0 = 10 ∧ mK (sI (sI M l0 8 (0 : Int32)) l0 4 (0 : Int32)) l0 = 10 ∧ CV G d 90 [.ref l0] (sI (sI M l0 8 (0 : Int32)) l0 4 (0 : Int32)) (fun N2 => P N2)) : CV G (d + 1) 89 [.ref l0] M P := CV_in (nL := 1) (rt := none) (bs := P89) rfl (Nat.le_of_ble_eq_true rfl) (XX_at _ rfl ⟨h.1, ⟨h.2.1, ⟨⟨h.2.2.1, Nat.le_of_ble_eq_true rfl⟩, ⟨Nat.le_of_ble_eq_true rfl, Nat.le_of_ble_eq_true rfl⟩, (match h.2.2.2 with | ⟨N2, hc1001, hk1002⟩ => ⟨none, N2, hc1001, ⟨rfl, hk1002⟩⟩)⟩⟩⟩)
/- ShoeOrchard$Tape.next()V cuts [0, 39, 66, 88, 110, 140, 141, 154] -/
def S90_0_36 : List Instr := [.goto (-36)]
def S90_39_47 : List Instr := [.aload_n 0, .getfield 648, .aload_n 0, .getfield 640, .if_icmp .lt 11, .aload_n 0, .iconst 0, .putfield 641, .goto 91]
def S90_39_63 : List Instr := [.goto 91]
def S90_110_123 : List Instr := [.aload_n 0, .ret 0, .aload_n 0, .getfield 646, .invokevirtual 273, .ifCond .lt 7, .iconst 3, .goto 4]
def S90_140_144 : List Instr := [.aload_n 0, .dup, .getfield 648, .iconst 1, .iadd, .putfield 648, .return_]
def S90_140_154 : List Instr := [.return_]
def S90_141_144 : List Instr := [.aload_n 0, .dup, .getfield 648, .iconst 1, .iadd, .putfield 648, .return_]
def S90_141_154 : List Instr := [.return_]
theorem b90_0_36 {G : GG} {d : Nat} {Q : Option Value → mm_M → Prop} {l0 : Nat} {M : mm_M} (h : XX G d none P90 Q 0 [.ref l0] [] M) : BB G d none P90 Q S90_0_36 36 [.ref l0] [] M := h
theorem b90_110_123 {G : GG} {d : Nat} {Q : Option Value → mm_M → Prop} {l0 : Nat} {M : mm_M} (h : mK M l0 = 10 ∧ CI G d 273 [.retAddr 0, .int (mI M l0 6)] M (fun v1 N2 => ifP (v1 < 0) (XX G d none P90 Q 140 [.ref l0] [.ref l0] N2) (XX G d none P90 Q 141 [.ref l0] [.int (3 : Int32), .ref l0] N2))) : BB G d none P90 Q S90_110_123 123 [.ref l0] [] M := ⟨Nat.le_of_ble_eq_true rfl, ⟨h.1, ⟨⟨Nat.le_of_ble_eq_true rfl, rfl⟩, ⟨Nat.le_of_ble_eq_true rfl, Nat.le_of_ble_eq_true rfl⟩, (match h.2 with | ⟨v1, N2, hc1001, hk1002⟩ => ⟨some (.int v1), N2, hc1001, ⟨fun q1003 => (hk1002.1 q1003), fun q1003 => (hk1002.2 q1003)⟩⟩)⟩⟩⟩
theorem b90_140_144 {G : GG} {d : Nat} {Q : Option Value → mm_M → Prop} {l0 : Nat} {M : mm_M} (h : mK M l0 = 10 ∧ mK M l0 = 10 ∧ BB G d none P90 Q S90_140_154 154 [.ref l0] [] (sI M l0 8 ((mI M l0 8) + (1 : Int32)))) : BB G d none P90 Q S90_140_144 144 [.ref l0] [] M := ⟨h.1, ⟨h.2.1, h.2.2⟩⟩
theorem b90_140_154 {G : GG} {d : Nat} {Q : Option Value → mm_M → Prop} {l0 : Nat} {M : mm_M} (h : Q none M) : BB G d none P90 Q S90_140_154 154 [.ref l0] [] M := h
theorem b90_141_144 {G : GG} {d : Nat} {Q : Option Value → mm_M → Prop} {l0 : Nat} {M : mm_M} (h : mK M l0 = 10 ∧ mK M l0 = 10 ∧ BB G d none P90 Q S90_141_154 154 [.ref l0] [] (sI M l0 8 ((mI M l0 8) + (1 : Int32)))) : BB G d none P90 Q S90_141_144 144 [.ref l0] [] M := ⟨h.1, ⟨h.2.1, h.2.2⟩⟩
theorem b90_141_154 {G : GG} {d : Nat} {Q : Option Value → mm_M → Prop} {l0 : Nat} {M : mm_M} (h : Q none M) : BB G d none P90 Q S90_141_154 154 [.ref l0] [] M := h
theorem b90_39_47 {G : GG} {d : Nat} {Q : Option Value → mm_M → Prop} {l0 : Nat} {M : mm_M} (h : mK M l0 = 10 ∧ mK M l0 = 10 ∧ ifP ((mI M l0 8) < (mI M l0 0)) (XX G d none P90 Q 66 [.ref l0] [] M) (mK M l0 = 10 ∧ BB G d none P90 Q S90_39_63 63 [.ref l0] [] (sI M l0 1 (0 : Int32)))) : BB G d none P90 Q S90_39_47 47 [.ref l0] [] M := ⟨h.1, ⟨h.2.1, ⟨fun q1001 => (h.2.2.1 q1001), fun q1001 => ⟨(h.2.2.2 q1001).1, (h.2.2.2 q1001).2⟩⟩⟩⟩
theorem b90_39_63 {G : GG} {d : Nat} {Q : Option Value → mm_M → Prop} {l0 : Nat} {M : mm_M} (h : XX G d none P90 Q 154 [.ref l0] [] M) : BB G d none P90 Q S90_39_63 63 [.ref l0] [] M := h
theorem x90_0 {G : GG} {d : Nat} {Q : Option Value → mm_M → Prop} {l0 : Nat} {M : mm_M} (h : mK M l0 = 10 ∧ mK M l0 = 10 ∧ ifP ((mI M l0 0) ≤ (mI M l0 8)) (XX G d none P90 Q 39 [.ref l0] [] M) (mK M l0 = 10 ∧ mK M l0 = 10 ∧ (mK M (mR M l0 5) = 13 ∧ vp_in (mI M l0 8) (mN M (mR M l0 5))) ∧ CI G d 91 [.int (mI M (mR M l0 5) ((mI M l0 8).toNatClampNeg))] M (fun v1 N2 => ifP (v1 = 0) (XX G d none P90 Q 39 [.ref l0] [] N2) (mK N2 l0 = 10 ∧ mK N2 l0 = 10 ∧ BB G d none P90 Q S90_0_36 36 [.ref l0] [] (sI N2 l0 8 ((mI N2 l0 8) + (1 : Int32))))))) : XX G d none P90 Q 0 [.ref l0] [] M := XX_at _ rfl ⟨h.1, ⟨h.2.1, ⟨fun q1001 => (h.2.2.1 q1001), fun q1001 => ⟨(h.2.2.2 q1001).1, ⟨(h.2.2.2 q1001).2.1, ⟨(h.2.2.2 q1001).2.2.1, ⟨⟨Nat.le_of_ble_eq_true rfl, Nat.le_of_ble_eq_true rfl⟩, (match (h.2.2.2 q1001).2.2.2 with | ⟨v1, N2, hc1002, hk1003⟩ => ⟨some (.int v1), N2, hc1002, ⟨fun q1004 => (hk1003.1 q1004), fun q1004 => ⟨(hk1003.2 q1004).1, ⟨(hk1003.2 q1004).2.1, (hk1003.2 q1004).2.2⟩⟩⟩⟩)⟩⟩⟩⟩⟩⟩⟩
theorem x90_110 {G : GG} {d : Nat} {Q : Option Value → mm_M → Prop} {l0 : Nat} {M : mm_M} (h : mK M l0 = 10 ∧ mK M l0 = 10 ∧ (mK M (mR M l0 5) = 13 ∧ vp_in (mI M l0 8) (mN M (mR M l0 5))) ∧ (mK M l0 = 10 ∧ narrow .char (.int (mI M (mR M l0 5) ((mI M l0 8).toNatClampNeg))) = .int (mI M (mR M l0 5) ((mI M l0 8).toNatClampNeg)) ∧ fits .char (.int (mI M (mR M l0 5) ((mI M l0 8).toNatClampNeg))) = true) ∧ BB G d none P90 Q S90_110_123 123 [.ref l0] [] (sI M l0 6 (mI M (mR M l0 5) ((mI M l0 8).toNatClampNeg)))) : XX G d none P90 Q 110 [.ref l0] [] M := XX_at _ rfl ⟨h.1, ⟨h.2.1, ⟨h.2.2.1, ⟨⟨h.2.2.2.1.1, rfl, h.2.2.2.1.2.1, h.2.2.2.1.2.2⟩, h.2.2.2.2⟩⟩⟩⟩
theorem x90_140 {G : GG} {d : Nat} {Q : Option Value → mm_M → Prop} {l0 : Nat} {s0 : Nat} {M : mm_M} (h : mK M s0 = 10 ∧ BB G d none P90 Q S90_140_144 144 [.ref l0] [] (sI M s0 1 (4 : Int32))) : XX G d none P90 Q 140 [.ref l0] [.ref s0] M := XX_at _ rfl ⟨h.1, h.2⟩
theorem x90_141 {G : GG} {d : Nat} {Q : Option Value → mm_M → Prop} {l0 : Nat} {s0 : Int32} {s1 : Nat} {M : mm_M} (h : mK M s1 = 10 ∧ BB G d none P90 Q S90_141_144 144 [.ref l0] [] (sI M s1 1 s0)) : XX G d none P90 Q 141 [.ref l0] [.int s0, .ref s1] M := XX_at _ rfl ⟨h.1, h.2⟩
theorem x90_154 {G : GG} {d : Nat} {Q : Option Value → mm_M → Prop} {l0 : Nat} {M : mm_M} (h : Q none M) : XX G d none P90 Q 154 [.ref l0] [] M := XX_at _ rfl h
theorem x90_39 {G : GG} {d : Nat} {Q : Option Value → mm_M → Prop} {l0 : Nat} {M : mm_M} (h : mK M l0 = 10 ∧ mK M l0 = 10 ∧ BB G d none P90 Q S90_39_47 47 [.ref l0] [] (sI M l0 7 (mI M l0 8))) : XX G d none P90 Q 39 [.ref l0] [] M := XX_at _ rfl ⟨h.1, ⟨h.2.1, h.2.2⟩⟩
theorem x90_66 {G : GG} {d : Nat} {Q : Option Value → mm_M → Prop} {l0 : Nat} {M : mm_M} (h : mK M l0 = 10 ∧ mK M l0 = 10 ∧ (mK M (mR M l0 5) = 13 ∧ vp_in (mI M l0 8) (mN M (mR M l0 5))) ∧ CI G d 92 [.int (mI M (mR M l0 5) ((mI M l0 8).toNatClampNeg))] M (fun v1 N2 => ifP (v1 = 0) (XX G d none P90 Q 88 [.ref l0] [] N2) (mK N2 l0 = 10 ∧ CV G d 93 [.ref l0] N2 (fun N4 => XX G d none P90 Q 154 [.ref l0] [] N4)))) : XX G d none P90 Q 66 [.ref l0] [] M := XX_at _ rfl ⟨h.1, ⟨h.2.1, ⟨h.2.2.1, ⟨⟨Nat.le_of_ble_eq_true rfl, Nat.le_of_ble_eq_true rfl⟩, (match h.2.2.2 with | ⟨v1, N2, hc1001, hk1002⟩ => ⟨some (.int v1), N2, hc1001, ⟨fun q1003 => (hk1002.1 q1003), fun q1003 => ⟨⟨(hk1002.2 q1003).1, Nat.le_of_ble_eq_true rfl⟩, ⟨Nat.le_of_ble_eq_true rfl, Nat.le_of_ble_eq_true rfl⟩, (match (hk1002.2 q1003).2 with | ⟨N4, hc1004, hk1005⟩ => ⟨none, N4, hc1004, hk1005⟩)⟩⟩⟩)⟩⟩⟩⟩
theorem x90_88 {G : GG} {d : Nat} {Q : Option Value → mm_M → Prop} {l0 : Nat} {M : mm_M} (h : mK M l0 = 10 ∧ mK M l0 = 10 ∧ (mK M (mR M l0 5) = 13 ∧ vp_in (mI M l0 8) (mN M (mR M l0 5))) ∧ CI G d 94 [.int (mI M (mR M l0 5) ((mI M l0 8).toNatClampNeg))] M (fun v1 N2 => ifP (v1 = 0) (XX G d none P90 Q 110 [.ref l0] [] N2) (mK N2 l0 = 10 ∧ CV G d 95 [.ref l0] N2 (fun N4 => XX G d none P90 Q 154 [.ref l0] [] N4)))) : XX G d none P90 Q 88 [.ref l0] [] M := XX_at _ rfl ⟨h.1, ⟨h.2.1, ⟨h.2.2.1, ⟨⟨Nat.le_of_ble_eq_true rfl, Nat.le_of_ble_eq_true rfl⟩, (match h.2.2.2 with | ⟨v1, N2, hc1001, hk1002⟩ => ⟨some (.int v1), N2, hc1001, ⟨fun q1003 => (hk1002.1 q1003), fun q1003 => ⟨⟨(hk1002.2 q1003).1, Nat.le_of_ble_eq_true rfl⟩, ⟨Nat.le_of_ble_eq_true rfl, Nat.le_of_ble_eq_true rfl⟩, (match (hk1002.2 q1003).2 with | ⟨N4, hc1004, hk1005⟩ => ⟨none, N4, hc1004, hk1005⟩)⟩⟩⟩)⟩⟩⟩⟩
theorem e90 {G : GG} {d : Nat} {P : mm_M → Prop} {l0 : Nat} {M : mm_M} (h : XX G d none P90 (QV P) 0 [.ref l0] [] M) : CV G (d + 1) 90 [.ref l0] M P := CV_in (nL := 1) (rt := none) (bs := P90) rfl (Nat.le_of_ble_eq_true rfl) h
/- ShoeOrchard$Tape.isBlank(C)Z cuts [] -/
theorem e91 {G : GG} {d : Nat} {P : Int32 → mm_M → Prop} {l0 : Int32} {M : mm_M} (h : ifP (l0 = (10 : Int32)) (P (1 : Int32) M) (ifP (¬ l0 = (32 : Int32)) (P (0 : Int32) M) (P (1 : Int32) M))) : CI G (d + 1) 91 [.int l0] M P := CI_in (nL := 1) (rt := (some .boolean)) (bs := P91) rfl (Nat.le_of_ble_eq_true rfl) (XX_at _ rfl ⟨fun q1001 => (XX_at _ rfl (XX_at _ rfl ⟨rfl, ⟨_, rfl, (h.1 q1001)⟩⟩)), fun q1001 => ⟨fun q1002 => (XX_at _ rfl ⟨rfl, ⟨_, rfl, ((h.2 q1001).1 q1002)⟩⟩), fun q1002 => (XX_at _ rfl ⟨rfl, ⟨_, rfl, ((h.2 q1001).2 q1002)⟩⟩)⟩⟩)
/- ShoeOrchard$Tape.isLetter(C)Z cuts [] -/
theorem e92 {G : GG} {d : Nat} {P : Int32 → mm_M → Prop} {l0 : Int32} {M : mm_M} (h : ifP (l0 < (97 : Int32)) (P (0 : Int32) M) (ifP ((122 : Int32) < l0) (P (0 : Int32) M) (P (1 : Int32) M))) : CI G (d + 1) 92 [.int l0] M P := CI_in (nL := 1) (rt := (some .boolean)) (bs := P92) rfl (Nat.le_of_ble_eq_true rfl) (XX_at _ rfl ⟨fun q1001 => (XX_at _ rfl ⟨rfl, ⟨_, rfl, (h.1 q1001)⟩⟩), fun q1001 => ⟨fun q1002 => (XX_at _ rfl ⟨rfl, ⟨_, rfl, ((h.2 q1001).1 q1002)⟩⟩), fun q1002 => (XX_at _ rfl ⟨rfl, ⟨_, rfl, ((h.2 q1001).2 q1002)⟩⟩)⟩⟩)
/- ShoeOrchard$Tape.readWord()V cuts [5] -/
def S93_5_59 : List Instr := [.aload_n 0, .dup, .getfield 648, .iconst 1, .iadd, .putfield 648, .goto (-64)]
theorem b93_5_59 {G : GG} {d : Nat} {Q : Option Value → mm_M → Prop} {l0 : Nat} {M : mm_M} (h : mK M l0 = 10 ∧ mK M l0 = 10 ∧ XX G d none P93 Q 5 [.ref l0] [] (sI M l0 8 ((mI M l0 8) + (1 : Int32)))) : BB G d none P93 Q S93_5_59 59 [.ref l0] [] M := ⟨h.1, ⟨h.2.1, h.2.2⟩⟩
theorem x93_5 {G : GG} {d : Nat} {Q : Option Value → mm_M → Prop} {l0 : Nat} {M : mm_M} (h : mK M l0 = 10 ∧ mK M l0 = 10 ∧ ifP ((mI M l0 0) ≤ (mI M l0 8)) (mK M l0 = 10 ∧ mK M l0 = 10 ∧ ifP ((8 : Int32) < ((mI M l0 8) - (mI M l0 7))) (mK M l0 = 10 ∧ Q none (sI M l0 1 (4 : Int32))) (mK M l0 = 10 ∧ Q none (sI M l0 1 (1 : Int32)))) (mK M l0 = 10 ∧ mK M l0 = 10 ∧ (mK M (mR M l0 5) = 13 ∧ vp_in (mI M l0 8) (mN M (mR M l0 5))) ∧ CI G d 92 [.int (mI M (mR M l0 5) ((mI M l0 8).toNatClampNeg))] M (fun v1 N2 => ifP (v1 = 0) (mK N2 l0 = 10 ∧ mK N2 l0 = 10 ∧ ifP ((8 : Int32) < ((mI N2 l0 8) - (mI N2 l0 7))) (mK N2 l0 = 10 ∧ Q none (sI N2 l0 1 (4 : Int32))) (mK N2 l0 = 10 ∧ Q none (sI N2 l0 1 (1 : Int32)))) (mK N2 l0 = 10 ∧ mK N2 l0 = 10 ∧ mK N2 l0 = 10 ∧ (mK N2 (mR N2 l0 5) = 13 ∧ vp_in (mI N2 l0 8) (mN N2 (mR N2 l0 5))) ∧ mK N2 l0 = 10 ∧ BB G d none P93 Q S93_5_59 59 [.ref l0] [] (sJ N2 l0 3 (((mJ N2 l0 3) * (32 : Int64)) + ((((mI N2 (mR N2 l0 5) ((mI N2 l0 8).toNatClampNeg)) - (97 : Int32)) + (1 : Int32)).toInt64))))))) : XX G d none P93 Q 5 [.ref l0] [] M := XX_at _ rfl ⟨h.1, ⟨h.2.1, ⟨fun q1001 => (XX_at _ rfl ⟨(h.2.2.1 q1001).1, ⟨(h.2.2.1 q1001).2.1, ⟨fun q1002 => (XX_at _ rfl ⟨((h.2.2.1 q1001).2.2.1 q1002).1, ((h.2.2.1 q1001).2.2.1 q1002).2⟩), fun q1002 => (XX_at _ rfl ⟨((h.2.2.1 q1001).2.2.2 q1002).1, ((h.2.2.1 q1001).2.2.2 q1002).2⟩)⟩⟩⟩), fun q1001 => ⟨(h.2.2.2 q1001).1, ⟨(h.2.2.2 q1001).2.1, ⟨(h.2.2.2 q1001).2.2.1, ⟨⟨Nat.le_of_ble_eq_true rfl, Nat.le_of_ble_eq_true rfl⟩, (match (h.2.2.2 q1001).2.2.2 with | ⟨v1, N2, hc1003, hk1004⟩ => ⟨some (.int v1), N2, hc1003, ⟨fun q1005 => (XX_at _ rfl ⟨(hk1004.1 q1005).1, ⟨(hk1004.1 q1005).2.1, ⟨fun q1006 => (XX_at _ rfl ⟨((hk1004.1 q1005).2.2.1 q1006).1, ((hk1004.1 q1005).2.2.1 q1006).2⟩), fun q1006 => (XX_at _ rfl ⟨((hk1004.1 q1005).2.2.2 q1006).1, ((hk1004.1 q1005).2.2.2 q1006).2⟩)⟩⟩⟩), fun q1005 => ⟨(hk1004.2 q1005).1, ⟨trivial, ⟨(hk1004.2 q1005).2.1, ⟨(hk1004.2 q1005).2.2.1, ⟨(hk1004.2 q1005).2.2.2.1, ⟨⟨(hk1004.2 q1005).2.2.2.2.1, rfl⟩, (hk1004.2 q1005).2.2.2.2.2⟩⟩⟩⟩⟩⟩⟩⟩)⟩⟩⟩⟩⟩⟩⟩
theorem e93 {G : GG} {d : Nat} {P : mm_M → Prop} {l0 : Nat} {M : mm_M} (h : mK M l0 = 10 ∧ XX G d none P93 (QV P) 5 [.ref l0] [] (sJ M l0 3 (0 : Int64))) : CV G (d + 1) 93 [.ref l0] M P := CV_in (nL := 1) (rt := none) (bs := P93) rfl (Nat.le_of_ble_eq_true rfl) (XX_at _ rfl ⟨⟨h.1, rfl⟩, h.2⟩)
/- ShoeOrchard$Tape.isDigit(C)Z cuts [] -/
theorem e94 {G : GG} {d : Nat} {P : Int32 → mm_M → Prop} {l0 : Int32} {M : mm_M} (h : ifP (l0 < (48 : Int32)) (P (0 : Int32) M) (ifP ((57 : Int32) < l0) (P (0 : Int32) M) (P (1 : Int32) M))) : CI G (d + 1) 94 [.int l0] M P := CI_in (nL := 1) (rt := (some .boolean)) (bs := P94) rfl (Nat.le_of_ble_eq_true rfl) (XX_at _ rfl ⟨fun q1001 => (XX_at _ rfl ⟨rfl, ⟨_, rfl, (h.1 q1001)⟩⟩), fun q1001 => ⟨fun q1002 => (XX_at _ rfl ⟨rfl, ⟨_, rfl, ((h.2 q1001).1 q1002)⟩⟩), fun q1002 => (XX_at _ rfl ⟨rfl, ⟨_, rfl, ((h.2 q1001).2 q1002)⟩⟩)⟩⟩)
/- ShoeOrchard$Tape.readNumber()V cuts [5] -/
def S95_5_55 : List Instr := [.aload_n 0, .dup, .getfield 648, .iconst 1, .iadd, .putfield 648, .goto (-60)]
theorem b95_5_55 {G : GG} {d : Nat} {Q : Option Value → mm_M → Prop} {l0 : Nat} {M : mm_M} (h : mK M l0 = 10 ∧ mK M l0 = 10 ∧ XX G d none P95 Q 5 [.ref l0] [] (sI M l0 8 ((mI M l0 8) + (1 : Int32)))) : BB G d none P95 Q S95_5_55 55 [.ref l0] [] M := ⟨h.1, ⟨h.2.1, h.2.2⟩⟩
theorem x95_5 {G : GG} {d : Nat} {Q : Option Value → mm_M → Prop} {l0 : Nat} {M : mm_M} (h : mK M l0 = 10 ∧ mK M l0 = 10 ∧ ifP ((mI M l0 0) ≤ (mI M l0 8)) (mK M l0 = 10 ∧ mK M l0 = 10 ∧ ifP ((4 : Int32) < ((mI M l0 8) - (mI M l0 7))) (mK M l0 = 10 ∧ Q none (sI M l0 1 (4 : Int32))) (mK M l0 = 10 ∧ Q none (sI M l0 1 (2 : Int32)))) (mK M l0 = 10 ∧ mK M l0 = 10 ∧ (mK M (mR M l0 5) = 13 ∧ vp_in (mI M l0 8) (mN M (mR M l0 5))) ∧ CI G d 94 [.int (mI M (mR M l0 5) ((mI M l0 8).toNatClampNeg))] M (fun v1 N2 => ifP (v1 = 0) (mK N2 l0 = 10 ∧ mK N2 l0 = 10 ∧ ifP ((4 : Int32) < ((mI N2 l0 8) - (mI N2 l0 7))) (mK N2 l0 = 10 ∧ Q none (sI N2 l0 1 (4 : Int32))) (mK N2 l0 = 10 ∧ Q none (sI N2 l0 1 (2 : Int32)))) (mK N2 l0 = 10 ∧ mK N2 l0 = 10 ∧ mK N2 l0 = 10 ∧ (mK N2 (mR N2 l0 5) = 13 ∧ vp_in (mI N2 l0 8) (mN N2 (mR N2 l0 5))) ∧ mK N2 l0 = 10 ∧ BB G d none P95 Q S95_5_55 55 [.ref l0] [] (sI N2 l0 2 (((mI N2 l0 2) * (10 : Int32)) + ((mI N2 (mR N2 l0 5) ((mI N2 l0 8).toNatClampNeg)) - (48 : Int32)))))))) : XX G d none P95 Q 5 [.ref l0] [] M := XX_at _ rfl ⟨h.1, ⟨h.2.1, ⟨fun q1001 => (XX_at _ rfl ⟨(h.2.2.1 q1001).1, ⟨(h.2.2.1 q1001).2.1, ⟨fun q1002 => (XX_at _ rfl ⟨((h.2.2.1 q1001).2.2.1 q1002).1, ((h.2.2.1 q1001).2.2.1 q1002).2⟩), fun q1002 => (XX_at _ rfl ⟨((h.2.2.1 q1001).2.2.2 q1002).1, ((h.2.2.1 q1001).2.2.2 q1002).2⟩)⟩⟩⟩), fun q1001 => ⟨(h.2.2.2 q1001).1, ⟨(h.2.2.2 q1001).2.1, ⟨(h.2.2.2 q1001).2.2.1, ⟨⟨Nat.le_of_ble_eq_true rfl, Nat.le_of_ble_eq_true rfl⟩, (match (h.2.2.2 q1001).2.2.2 with | ⟨v1, N2, hc1003, hk1004⟩ => ⟨some (.int v1), N2, hc1003, ⟨fun q1005 => (XX_at _ rfl ⟨(hk1004.1 q1005).1, ⟨(hk1004.1 q1005).2.1, ⟨fun q1006 => (XX_at _ rfl ⟨((hk1004.1 q1005).2.2.1 q1006).1, ((hk1004.1 q1005).2.2.1 q1006).2⟩), fun q1006 => (XX_at _ rfl ⟨((hk1004.1 q1005).2.2.2 q1006).1, ((hk1004.1 q1005).2.2.2 q1006).2⟩)⟩⟩⟩), fun q1005 => ⟨(hk1004.2 q1005).1, ⟨(hk1004.2 q1005).2.1, ⟨(hk1004.2 q1005).2.2.1, ⟨(hk1004.2 q1005).2.2.2.1, ⟨(hk1004.2 q1005).2.2.2.2.1, (hk1004.2 q1005).2.2.2.2.2⟩⟩⟩⟩⟩⟩⟩)⟩⟩⟩⟩⟩⟩⟩
theorem e95 {G : GG} {d : Nat} {P : mm_M → Prop} {l0 : Nat} {M : mm_M} (h : mK M l0 = 10 ∧ XX G d none P95 (QV P) 5 [.ref l0] [] (sI M l0 2 (0 : Int32))) : CV G (d + 1) 95 [.ref l0] M P := CV_in (nL := 1) (rt := none) (bs := P95) rfl (Nat.le_of_ble_eq_true rfl) (XX_at _ rfl ⟨h.1, h.2⟩)
/- ShoeOrchard$Tape.among(Ljava/lang/String;)I cuts [17] -/
def S96_10_14 : List Instr := [.iconst 0, .istore 4]
def S96_59_67 : List Instr := [.iinc 4 1, .goto (-53)]
theorem b96_10_14 {G : GG} {d : Nat} {Q : Option Value → mm_M → Prop} {l0 : Nat} {l1 : Nat} {l2 : Int32} {l3 : Int32} {M : mm_M} (h : XX G d (some .int) P96 Q 17 [.ref l0, .retAddr l1, .int l2, .int l3, .int (0 : Int32)] [] M) : BB G d (some .int) P96 Q S96_10_14 14 [.ref l0, .retAddr l1, .int l2, .int l3, jk] [] M := h
theorem b96_59_67 {G : GG} {d : Nat} {Q : Option Value → mm_M → Prop} {l0 : Nat} {l1 : Nat} {l2 : Int32} {l3 : Int32} {l4 : Int32} {M : mm_M} (h : XX G d (some .int) P96 Q 17 [.ref l0, .retAddr l1, .int l2, .int l3, .int (l4 + (1 : Int32))] [] M) : BB G d (some .int) P96 Q S96_59_67 67 [.ref l0, .retAddr l1, .int l2, .int l3, .int l4] [] M := h
theorem x96_17 {G : GG} {d : Nat} {Q : Option Value → mm_M → Prop} {l0 : Nat} {l1 : Nat} {l2 : Int32} {l3 : Int32} {l4 : Int32} {M : mm_M} (h : l1 < 15 ∧ CI G d 276 [.retAddr l1] M (fun v1 N2 => ifP (v1 < l4) (Q (some (.int (-1 : Int32))) N2) (l1 < 15 ∧ CI G d 276 [.retAddr l1] N2 (fun v3 N4 => ifP (l4 = v3) (mK N4 l0 = 10 ∧ CI G d 97 [.ref l0, .retAddr l1, .int l3, .int l4] N4 (fun v5 N6 => ifP (v5 = 0) (BB G d (some .int) P96 Q S96_59_67 67 [.ref l0, .retAddr l1, .int (l2 + (1 : Int32)), .int (l4 + (1 : Int32)), .int l4] [] N6) (Q (some (.int l2)) N6))) (l1 < 15 ∧ CI G d 278 [.retAddr l1, .int l4] N4 (fun v7 N8 => ifP (¬ v7 = (32 : Int32)) (XX G d (some .int) P96 Q 17 [.ref l0, .retAddr l1, .int l2, .int l3, .int (l4 + (1 : Int32))] [] N8) (mK N8 l0 = 10 ∧ CI G d 97 [.ref l0, .retAddr l1, .int l3, .int l4] N8 (fun v9 N10 => ifP (v9 = 0) (BB G d (some .int) P96 Q S96_59_67 67 [.ref l0, .retAddr l1, .int (l2 + (1 : Int32)), .int (l4 + (1 : Int32)), .int l4] [] N10) (Q (some (.int l2)) N10))))))))) : XX G d (some .int) P96 Q 17 [.ref l0, .retAddr l1, .int l2, .int l3, .int l4] [] M := XX_at _ rfl ⟨⟨h.1, rfl⟩, ⟨Nat.le_of_ble_eq_true rfl, Nat.le_of_ble_eq_true rfl⟩, (match h.2 with | ⟨v1, N2, hc1001, hk1002⟩ => ⟨some (.int v1), N2, hc1001, ⟨fun q1003 => (XX_at _ rfl ⟨rfl, (hk1002.1 q1003)⟩), fun q1003 => ⟨⟨(hk1002.2 q1003).1, rfl⟩, ⟨Nat.le_of_ble_eq_true rfl, Nat.le_of_ble_eq_true rfl⟩, (match (hk1002.2 q1003).2 with | ⟨v3, N4, hc1004, hk1005⟩ => ⟨some (.int v3), N4, hc1004, ⟨fun q1006 => (XX_at _ rfl ⟨⟨(hk1005.1 q1006).1, Nat.le_of_ble_eq_true rfl⟩, ⟨Nat.le_of_ble_eq_true rfl, Nat.le_of_ble_eq_true rfl⟩, (match (hk1005.1 q1006).2 with | ⟨v5, N6, hc1007, hk1008⟩ => ⟨some (.int v5), N6, hc1007, ⟨fun q1009 => (XX_at _ rfl (hk1008.1 q1009)), fun q1009 => ⟨rfl, (hk1008.2 q1009)⟩⟩⟩)⟩), fun q1006 => ⟨⟨(hk1005.2 q1006).1, rfl⟩, ⟨Nat.le_of_ble_eq_true rfl, Nat.le_of_ble_eq_true rfl⟩, (match (hk1005.2 q1006).2 with | ⟨v7, N8, hc1010, hk1011⟩ => ⟨some (.int v7), N8, hc1010, ⟨fun q1012 => (XX_at _ rfl (hk1011.1 q1012)), fun q1012 => ⟨⟨(hk1011.2 q1012).1, Nat.le_of_ble_eq_true rfl⟩, ⟨Nat.le_of_ble_eq_true rfl, Nat.le_of_ble_eq_true rfl⟩, (match (hk1011.2 q1012).2 with | ⟨v9, N10, hc1013, hk1014⟩ => ⟨some (.int v9), N10, hc1013, ⟨fun q1015 => (XX_at _ rfl (hk1014.1 q1015)), fun q1015 => ⟨rfl, (hk1014.2 q1015)⟩⟩⟩)⟩⟩⟩)⟩⟩⟩)⟩⟩⟩)⟩
theorem e96 {G : GG} {d : Nat} {P : Int32 → mm_M → Prop} {l0 : Nat} {l1 : Nat} {M : mm_M} (h : mK M l0 = 10 ∧ ifP ((mI M l0 1) = (1 : Int32)) (BB G d (some .int) P96 (QI P) S96_10_14 14 [.ref l0, .retAddr l1, .int (0 : Int32), .int (0 : Int32), jk] [] M) (P (-1 : Int32) M)) : CI G (d + 1) 96 [.ref l0, .retAddr l1] M P := CI_in (nL := 5) (rt := (some .int)) (bs := P96) rfl (Nat.le_of_ble_eq_true rfl) (XX_at _ rfl ⟨h.1, ⟨fun q1001 => (XX_at _ rfl (h.2.1 q1001)), fun q1001 => ⟨rfl, ⟨_, rfl, (h.2.2 q1001)⟩⟩⟩⟩)
/- ShoeOrchard$Tape.isPartOf(Ljava/lang/String;II)Z cuts [20] -/
theorem x97_20 {G : GG} {d : Nat} {Q : Option Value → mm_M → Prop} {l0 : Nat} {l1 : Nat} {l2 : Int32} {l3 : Int32} {l4 : Int32} {M : mm_M} (h : ifP ((l3 - l2) ≤ l4) (Q (some (.int (1 : Int32))) M) (l1 < 15 ∧ CI G d 278 [.retAddr l1, .int (l2 + l4)] M (fun v1 N2 => mK N2 l0 = 10 ∧ mK N2 l0 = 10 ∧ (mK N2 (mR N2 l0 5) = 13 ∧ vp_in ((mI N2 l0 7) + l4) (mN N2 (mR N2 l0 5))) ∧ ifP (v1 = (mI N2 (mR N2 l0 5) (((mI N2 l0 7) + l4).toNatClampNeg))) (XX G d (some .boolean) P97 Q 20 [.ref l0, .retAddr l1, .int l2, .int l3, .int (l4 + (1 : Int32))] [] N2) (Q (some (.int (0 : Int32))) N2)))) : XX G d (some .boolean) P97 Q 20 [.ref l0, .retAddr l1, .int l2, .int l3, .int l4] [] M := XX_at _ rfl ⟨fun q1001 => (XX_at _ rfl ⟨rfl, (h.1 q1001)⟩), fun q1001 => ⟨⟨(h.2 q1001).1, rfl⟩, ⟨Nat.le_of_ble_eq_true rfl, Nat.le_of_ble_eq_true rfl⟩, (match (h.2 q1001).2 with | ⟨v1, N2, hc1002, hk1003⟩ => ⟨some (.int v1), N2, hc1002, ⟨hk1003.1, ⟨hk1003.2.1, ⟨hk1003.2.2.1, ⟨fun q1004 => (XX_at _ rfl (hk1003.2.2.2.1 q1004)), fun q1004 => ⟨rfl, (hk1003.2.2.2.2 q1004)⟩⟩⟩⟩⟩⟩)⟩⟩
theorem e97 {G : GG} {d : Nat} {P : Int32 → mm_M → Prop} {l0 : Nat} {l1 : Nat} {l2 : Int32} {l3 : Int32} {M : mm_M} (h : mK M l0 = 10 ∧ mK M l0 = 10 ∧ ifP ((l3 - l2) = ((mI M l0 8) - (mI M l0 7))) (XX G d (some .boolean) P97 (QI P) 20 [.ref l0, .retAddr l1, .int l2, .int l3, .int (0 : Int32)] [] M) (P (0 : Int32) M)) : CI G (d + 1) 97 [.ref l0, .retAddr l1, .int l2, .int l3] M P := CI_in (nL := 5) (rt := (some .boolean)) (bs := P97) rfl (Nat.le_of_ble_eq_true rfl) (XX_at _ rfl ⟨h.1, ⟨h.2.1, ⟨fun q1001 => (XX_at _ rfl (h.2.2.1 q1001)), fun q1001 => ⟨rfl, ⟨_, rfl, (h.2.2.2 q1001)⟩⟩⟩⟩⟩)
/- ShoeOrchard$Tape.wrong(I)Z cuts [] -/
theorem e98 {G : GG} {d : Nat} {P : Int32 → mm_M → Prop} {l0 : Nat} {l1 : Int32} {M : mm_M} (h : mK M l0 = 10 ∧ ifP (¬ (mI M l0 4) = 0) (P (0 : Int32) M) (mK M l0 = 10 ∧ mK M l0 = 10 ∧ P (0 : Int32) (sI M l0 4 (l1 + ((16 : Int32) * (mI M l0 7)))))) : CI G (d + 1) 98 [.ref l0, .int l1] M P := CI_in (nL := 2) (rt := (some .boolean)) (bs := P98) rfl (Nat.le_of_ble_eq_true rfl) (XX_at _ rfl ⟨h.1, ⟨fun q1001 => (XX_at _ rfl ⟨rfl, ⟨_, rfl, (h.2.1 q1001)⟩⟩), fun q1001 => ⟨(h.2.2 q1001).1, ⟨(h.2.2 q1001).2.1, ⟨rfl, ⟨_, rfl, (h.2.2 q1001).2.2⟩⟩⟩⟩⟩⟩)
/- ShoeOrchard$Tape.isName()Z cuts [] -/
theorem e99 {G : GG} {d : Nat} {P : Int32 → mm_M → Prop} {l0 : Nat} {M : mm_M} (h : mK M l0 = 10 ∧ ifP (¬ (mI M l0 1) = (1 : Int32)) (P (0 : Int32) M) (mK M l0 = 10 ∧ CI G d 96 [.ref l0, .retAddr 2] M (fun v1 N2 => ifP (¬ v1 = (-1 : Int32)) (P (0 : Int32) N2) (P (1 : Int32) N2)))) : CI G (d + 1) 99 [.ref l0] M P := CI_in (nL := 1) (rt := (some .boolean)) (bs := P99) rfl (Nat.le_of_ble_eq_true rfl) (XX_at _ rfl ⟨h.1, ⟨fun q1001 => (XX_at _ rfl ⟨rfl, ⟨_, rfl, (h.2.1 q1001)⟩⟩), fun q1001 => ⟨Nat.le_of_ble_eq_true rfl, ⟨⟨(h.2.2 q1001).1, Nat.le_of_ble_eq_true rfl⟩, ⟨Nat.le_of_ble_eq_true rfl, Nat.le_of_ble_eq_true rfl⟩, (match (h.2.2 q1001).2 with | ⟨v1, N2, hc1002, hk1003⟩ => ⟨some (.int v1), N2, hc1002, ⟨fun q1004 => (XX_at _ rfl ⟨rfl, ⟨_, rfl, (hk1003.1 q1004)⟩⟩), fun q1004 => (XX_at _ rfl ⟨rfl, ⟨_, rfl, (hk1003.2 q1004)⟩⟩)⟩⟩)⟩⟩⟩⟩)
/- ShoeOrchard$Tape.takeAmong(Ljava/lang/String;)I cuts [] -/
theorem e100 {G : GG} {d : Nat} {P : Int32 → mm_M → Prop} {l0 : Nat} {l1 : Nat} {M : mm_M} (h : mK M l0 = 10 ∧ CI G d 96 [.ref l0, .retAddr l1] M (fun v1 N2 => ifP (¬ v1 = (-1 : Int32)) (mK N2 l0 = 10 ∧ CV G d 90 [.ref l0] N2 (fun N4 => P v1 N4)) (mK N2 l0 = 10 ∧ CI G d 98 [.ref l0, .int (1 : Int32)] N2 (fun v5 N6 => P v1 N6)))) : CI G (d + 1) 100 [.ref l0, .retAddr l1] M P := CI_in (nL := 3) (rt := (some .int)) (bs := P100) rfl (Nat.le_of_ble_eq_true rfl) (XX_at _ rfl ⟨⟨h.1, Nat.le_of_ble_eq_true rfl⟩, ⟨Nat.le_of_ble_eq_true rfl, Nat.le_of_ble_eq_true rfl⟩, (match h.2 with | ⟨v1, N2, hc1001, hk1002⟩ => ⟨some (.int v1), N2, hc1001, ⟨fun q1003 => (XX_at _ rfl ⟨⟨(hk1002.1 q1003).1, Nat.le_of_ble_eq_true rfl⟩, ⟨Nat.le_of_ble_eq_true rfl, Nat.le_of_ble_eq_true rfl⟩, (match (hk1002.1 q1003).2 with | ⟨N4, hc1004, hk1005⟩ => ⟨none, N4, hc1004, ⟨rfl, ⟨_, rfl, hk1005⟩⟩⟩)⟩), fun q1003 => ⟨⟨(hk1002.2 q1003).1, Nat.le_of_ble_eq_true rfl⟩, ⟨Nat.le_of_ble_eq_true rfl, Nat.le_of_ble_eq_true rfl⟩, (match (hk1002.2 q1003).2 with | ⟨v5, N6, hc1006, hk1007⟩ => ⟨some (.int v5), N6, hc1006, (XX_at _ rfl ⟨rfl, ⟨_, rfl, hk1007⟩⟩)⟩)⟩⟩⟩)⟩)
/- ShoeOrchard$Tape.takeWord(Ljava/lang/String;)Z cuts [] -/
theorem e101 {G : GG} {d : Nat} {P : Int32 → mm_M → Prop} {l0 : Nat} {l1 : Nat} {M : mm_M} (h : mK M l0 = 10 ∧ CI G d 102 [.ref l0, .retAddr l1] M (fun v1 N2 => ifP (¬ v1 = 0) (mK N2 l0 = 10 ∧ CV G d 90 [.ref l0] N2 (fun N4 => P (1 : Int32) N4)) (mK N2 l0 = 10 ∧ CI G d 98 [.ref l0, .int (1 : Int32)] N2 (fun v5 N6 => (v5 = 0 ∨ v5 = 1) ∧ P v5 N6)))) : CI G (d + 1) 101 [.ref l0, .retAddr l1] M P := CI_in (nL := 2) (rt := (some .boolean)) (bs := P101) rfl (Nat.le_of_ble_eq_true rfl) (XX_at _ rfl ⟨⟨h.1, Nat.le_of_ble_eq_true rfl⟩, ⟨Nat.le_of_ble_eq_true rfl, Nat.le_of_ble_eq_true rfl⟩, (match h.2 with | ⟨v1, N2, hc1001, hk1002⟩ => ⟨some (.int v1), N2, hc1001, ⟨fun q1003 => (XX_at _ rfl ⟨⟨(hk1002.1 q1003).1, Nat.le_of_ble_eq_true rfl⟩, ⟨Nat.le_of_ble_eq_true rfl, Nat.le_of_ble_eq_true rfl⟩, (match (hk1002.1 q1003).2 with | ⟨N4, hc1004, hk1005⟩ => ⟨none, N4, hc1004, ⟨rfl, ⟨_, rfl, hk1005⟩⟩⟩)⟩), fun q1003 => ⟨⟨(hk1002.2 q1003).1, Nat.le_of_ble_eq_true rfl⟩, ⟨Nat.le_of_ble_eq_true rfl, Nat.le_of_ble_eq_true rfl⟩, (match (hk1002.2 q1003).2 with | ⟨v5, N6, hc1006, hk1007⟩ => ⟨some (.int v5), N6, hc1006, ⟨nb_ok hk1007.1, ⟨_, rfl, hk1007.2⟩⟩⟩)⟩⟩⟩)⟩)
/- ShoeOrchard$Tape.isWord(Ljava/lang/String;)Z cuts [] -/
theorem e102 {G : GG} {d : Nat} {P : Int32 → mm_M → Prop} {l0 : Nat} {l1 : Nat} {M : mm_M} (h : mK M l0 = 10 ∧ ifP (¬ (mI M l0 1) = (1 : Int32)) (P (0 : Int32) M) (l1 < 15 ∧ CI G d 276 [.retAddr l1] M (fun v1 N2 => mK N2 l0 = 10 ∧ CI G d 97 [.ref l0, .retAddr l1, .int (0 : Int32), .int v1] N2 (fun v3 N4 => ifP (v3 = 0) (P (0 : Int32) N4) (P (1 : Int32) N4))))) : CI G (d + 1) 102 [.ref l0, .retAddr l1] M P := CI_in (nL := 2) (rt := (some .boolean)) (bs := P102) rfl (Nat.le_of_ble_eq_true rfl) (XX_at _ rfl ⟨h.1, ⟨fun q1001 => (XX_at _ rfl ⟨rfl, ⟨_, rfl, (h.2.1 q1001)⟩⟩), fun q1001 => ⟨⟨(h.2.2 q1001).1, rfl⟩, ⟨Nat.le_of_ble_eq_true rfl, Nat.le_of_ble_eq_true rfl⟩, (match (h.2.2 q1001).2 with | ⟨v1, N2, hc1002, hk1003⟩ => ⟨some (.int v1), N2, hc1002, ⟨⟨hk1003.1, Nat.le_of_ble_eq_true rfl⟩, ⟨Nat.le_of_ble_eq_true rfl, Nat.le_of_ble_eq_true rfl⟩, (match hk1003.2 with | ⟨v3, N4, hc1004, hk1005⟩ => ⟨some (.int v3), N4, hc1004, ⟨fun q1006 => (XX_at _ rfl ⟨rfl, ⟨_, rfl, (hk1005.1 q1006)⟩⟩), fun q1006 => (XX_at _ rfl ⟨rfl, ⟨_, rfl, (hk1005.2 q1006)⟩⟩)⟩⟩)⟩⟩)⟩⟩⟩)
/- ShoeOrchard$Tape.takeNumber(II)I cuts [] -/
theorem e103 {G : GG} {d : Nat} {P : Int32 → mm_M → Prop} {l0 : Nat} {l1 : Int32} {l2 : Int32} {M : mm_M} (h : mK M l0 = 10 ∧ ifP ((mI M l0 1) = (2 : Int32)) (mK M l0 = 10 ∧ ifP ((mI M l0 2) < l1) (mK M l0 = 10 ∧ CI G d 98 [.ref l0, .int (4 : Int32)] M (fun v1 N2 => P (-1 : Int32) N2)) (mK M l0 = 10 ∧ ifP ((mI M l0 2) ≤ l2) (mK M l0 = 10 ∧ mK M l0 = 10 ∧ CV G d 90 [.ref l0] M (fun N4 => P (mI M l0 2) N4)) (mK M l0 = 10 ∧ CI G d 98 [.ref l0, .int (4 : Int32)] M (fun v5 N6 => P (-1 : Int32) N6)))) (mK M l0 = 10 ∧ CI G d 98 [.ref l0, .int (1 : Int32)] M (fun v7 N8 => P (-1 : Int32) N8))) : CI G (d + 1) 103 [.ref l0, .int l1, .int l2] M P := CI_in (nL := 4) (rt := (some .int)) (bs := P103) rfl (Nat.le_of_ble_eq_true rfl) (XX_at _ rfl ⟨h.1, ⟨fun q1001 => (XX_at _ rfl ⟨(h.2.1 q1001).1, ⟨fun q1002 => (XX_at _ rfl ⟨⟨((h.2.1 q1001).2.1 q1002).1, Nat.le_of_ble_eq_true rfl⟩, ⟨Nat.le_of_ble_eq_true rfl, Nat.le_of_ble_eq_true rfl⟩, (match ((h.2.1 q1001).2.1 q1002).2 with | ⟨v1, N2, hc1003, hk1004⟩ => ⟨some (.int v1), N2, hc1003, ⟨rfl, ⟨_, rfl, hk1004⟩⟩⟩)⟩), fun q1002 => ⟨((h.2.1 q1001).2.2 q1002).1, ⟨fun q1005 => (XX_at _ rfl ⟨(((h.2.1 q1001).2.2 q1002).2.1 q1005).1, ⟨⟨(((h.2.1 q1001).2.2 q1002).2.1 q1005).2.1, Nat.le_of_ble_eq_true rfl⟩, ⟨Nat.le_of_ble_eq_true rfl, Nat.le_of_ble_eq_true rfl⟩, (match (((h.2.1 q1001).2.2 q1002).2.1 q1005).2.2 with | ⟨N4, hc1006, hk1007⟩ => ⟨none, N4, hc1006, ⟨rfl, ⟨_, rfl, hk1007⟩⟩⟩)⟩⟩), fun q1005 => ⟨⟨(((h.2.1 q1001).2.2 q1002).2.2 q1005).1, Nat.le_of_ble_eq_true rfl⟩, ⟨Nat.le_of_ble_eq_true rfl, Nat.le_of_ble_eq_true rfl⟩, (match (((h.2.1 q1001).2.2 q1002).2.2 q1005).2 with | ⟨v5, N6, hc1008, hk1009⟩ => ⟨some (.int v5), N6, hc1008, ⟨rfl, ⟨_, rfl, hk1009⟩⟩⟩)⟩⟩⟩⟩⟩), fun q1001 => ⟨⟨(h.2.2 q1001).1, Nat.le_of_ble_eq_true rfl⟩, ⟨Nat.le_of_ble_eq_true rfl, Nat.le_of_ble_eq_true rfl⟩, (match (h.2.2 q1001).2 with | ⟨v7, N8, hc1010, hk1011⟩ => ⟨some (.int v7), N8, hc1010, ⟨rfl, ⟨_, rfl, hk1011⟩⟩⟩)⟩⟩⟩)
/- ShoeOrchard$Tape.isSign(C)Z cuts [] -/
theorem e104 {G : GG} {d : Nat} {P : Int32 → mm_M → Prop} {l0 : Nat} {l1 : Int32} {M : mm_M} (h : mK M l0 = 10 ∧ ifP (¬ (mI M l0 1) = (3 : Int32)) (P (0 : Int32) M) (mK M l0 = 10 ∧ ifP (¬ (mI M l0 6) = l1) (P (0 : Int32) M) (P (1 : Int32) M))) : CI G (d + 1) 104 [.ref l0, .int l1] M P := CI_in (nL := 2) (rt := (some .boolean)) (bs := P104) rfl (Nat.le_of_ble_eq_true rfl) (XX_at _ rfl ⟨h.1, ⟨fun q1001 => (XX_at _ rfl ⟨rfl, ⟨_, rfl, (h.2.1 q1001)⟩⟩), fun q1001 => ⟨(h.2.2 q1001).1, ⟨fun q1002 => (XX_at _ rfl ⟨rfl, ⟨_, rfl, ((h.2.2 q1001).2.1 q1002)⟩⟩), fun q1002 => (XX_at _ rfl ⟨rfl, ⟨_, rfl, ((h.2.2 q1001).2.2 q1002)⟩⟩)⟩⟩⟩⟩)
/- ShoeOrchard$Tape.takeSign(C)Z cuts [] -/
theorem e105 {G : GG} {d : Nat} {P : Int32 → mm_M → Prop} {l0 : Nat} {l1 : Int32} {M : mm_M} (h : mK M l0 = 10 ∧ CI G d 104 [.ref l0, .int l1] M (fun v1 N2 => ifP (¬ v1 = 0) (mK N2 l0 = 10 ∧ CV G d 90 [.ref l0] N2 (fun N4 => P (1 : Int32) N4)) (mK N2 l0 = 10 ∧ CI G d 98 [.ref l0, .int (1 : Int32)] N2 (fun v5 N6 => (v5 = 0 ∨ v5 = 1) ∧ P v5 N6)))) : CI G (d + 1) 105 [.ref l0, .int l1] M P := CI_in (nL := 2) (rt := (some .boolean)) (bs := P105) rfl (Nat.le_of_ble_eq_true rfl) (XX_at _ rfl ⟨⟨h.1, Nat.le_of_ble_eq_true rfl⟩, ⟨Nat.le_of_ble_eq_true rfl, Nat.le_of_ble_eq_true rfl⟩, (match h.2 with | ⟨v1, N2, hc1001, hk1002⟩ => ⟨some (.int v1), N2, hc1001, ⟨fun q1003 => (XX_at _ rfl ⟨⟨(hk1002.1 q1003).1, Nat.le_of_ble_eq_true rfl⟩, ⟨Nat.le_of_ble_eq_true rfl, Nat.le_of_ble_eq_true rfl⟩, (match (hk1002.1 q1003).2 with | ⟨N4, hc1004, hk1005⟩ => ⟨none, N4, hc1004, ⟨rfl, ⟨_, rfl, hk1005⟩⟩⟩)⟩), fun q1003 => ⟨⟨(hk1002.2 q1003).1, Nat.le_of_ble_eq_true rfl⟩, ⟨Nat.le_of_ble_eq_true rfl, Nat.le_of_ble_eq_true rfl⟩, (match (hk1002.2 q1003).2 with | ⟨v5, N6, hc1006, hk1007⟩ => ⟨some (.int v5), N6, hc1006, ⟨nb_ok hk1007.1, ⟨_, rfl, hk1007.2⟩⟩⟩)⟩⟩⟩)⟩)
/- ShoeOrchard$Tape.clear()V cuts [] -/
theorem e106 {G : GG} {d : Nat} {P : mm_M → Prop} {l0 : Nat} {M : mm_M} (h : mK M l0 = 10 ∧ P (sI M l0 0 (0 : Int32))) : CV G (d + 1) 106 [.ref l0] M P := CV_in (nL := 1) (rt := none) (bs := P106) rfl (Nat.le_of_ble_eq_true rfl) (XX_at _ rfl ⟨h.1, ⟨rfl, h.2⟩⟩)
end
