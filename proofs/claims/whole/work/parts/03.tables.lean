/-! tables of the program: names, links, methods (by program out of the class files) -/
def gT : List Cond := lw_tbl.filter goodWord
theorem gT_in {α : Type} (f : α → Cond) (qs : List (α × Nat)) (h : qs.all (fun q => decide (lw_tbl[q.2]? = some (f q.1)) && goodWord (f q.1)) = true) : ∀ q ∈ qs, f q.1 ∈ gT := by
  intro q hq
  have h1 := List.all_eq_true.mp h q hq
  rw [Bool.and_eq_true] at h1
  exact List.mem_filter.mpr ⟨List.mem_of_getElem? (of_decide_eq_true h1.1), h1.2⟩
theorem tb_in {α : Type} (f : α → Cond) (qs : List (α × Nat)) (h : qs.all (fun q => decide (lw_tbl[q.2]? = some (f q.1))) = true) : ∀ q ∈ qs, f q.1 ∈ lw_tbl := by
  intro q hq
  have h1 := List.all_eq_true.mp h q hq
  exact List.mem_of_getElem? (of_decide_eq_true h1)
theorem gT_good : GoodIn gT gT := fun w hw => ⟨hw, good_of_word (List.mem_filter.mp hw).2⟩
def onL : List String := ["ShoeOrchard$Felt", "ShoeOrchard$Formula", "ShoeOrchard$Lines", "ShoeOrchard$Matching", "ShoeOrchard$MorningReader", "ShoeOrchard$OrchardReader", "ShoeOrchard$Past", "ShoeOrchard$Plan", "ShoeOrchard$Queue", "ShoeOrchard$State", "ShoeOrchard$Tape", "ShoeOrchard", "ShoeOrchardModel", "ShoeOrchardLaw", "java/lang/String", "java/lang/StringLatin1", "java/util/Arrays", "java/lang/Integer", "java/lang/Math", "jdk/internal/util/Preconditions"]
def on (o : Nat) : String := onL.getD o ""
def cT0 : u_T := fun k => match k with
  | 0 => ("ShoeOrchard$Felt", "length", "I", false)
  | 1 => ("ShoeOrchard$Felt", "trees", "[I", true)
  | _ => ("ShoeOrchard$Felt", "fitted", "[Z", true)
def cT1 : u_T := fun k => match k with
  | 0 => ("ShoeOrchard$Formula", "steps", "[I", true)
  | 1 => ("ShoeOrchard$Formula", "stack", "[I", true)
  | _ => ("ShoeOrchard$Formula", "length", "I", false)
def cT2 : u_T := fun k => match k with
  | 0 => ("ShoeOrchard$Lines", "length", "I", false)
  | 1 => ("ShoeOrchard$Lines", "kind", "[I", true)
  | 2 => ("ShoeOrchard$Lines", "first", "[I", true)
  | _ => ("ShoeOrchard$Lines", "second", "[I", true)
def cT3 : u_T := fun k => match k with
  | 0 => ("ShoeOrchard$Matching", "total", "I", false)
  | 1 => ("ShoeOrchard$Matching", "choices", "[I", true)
  | 2 => ("ShoeOrchard$Matching", "worth", "[I", true)
  | 3 => ("ShoeOrchard$Matching", "row", "[I", true)
  | 4 => ("ShoeOrchard$Matching", "persons", "I", false)
  | 5 => ("ShoeOrchard$Matching", "trees", "I", false)
  | _ => ("ShoeOrchard$Matching", "most", "[I", true)
def cT4 : u_T := fun k => match k with
  | _ => ("ShoeOrchard$MorningReader", "lines", "LShoeOrchard$Lines;", true)
def cT5 : u_T := fun k => match k with
  | 0 => ("ShoeOrchard$OrchardReader", "plan", "LShoeOrchard$Plan;", true)
  | _ => ("ShoeOrchard$OrchardReader", "stood", "I", false)
def cT6 : u_T := fun k => match k with
  | 0 => ("ShoeOrchard$Past", "length", "I", false)
  | 1 => ("ShoeOrchard$Past", "kept", "[LShoeOrchard$State;", true)
  | 2 => ("ShoeOrchard$Past", "markedState", "[LShoeOrchard$State;", true)
  | 3 => ("ShoeOrchard$Past", "markedFelt", "[LShoeOrchard$Felt;", true)
  | _ => ("ShoeOrchard$Past", "laid", "[Z", true)
def cT7 : u_T := fun k => match k with
  | 0 => ("ShoeOrchard$Plan", "trees", "I", false)
  | 1 => ("ShoeOrchard$Plan", "persons", "I", false)
  | 2 => ("ShoeOrchard$Plan", "pinch", "I", false)
  | 3 => ("ShoeOrchard$Plan", "noon", "I", false)
  | 4 => ("ShoeOrchard$Plan", "frosts", "I", false)
  | 5 => ("ShoeOrchard$Plan", "treeKind", "[I", true)
  | 6 => ("ShoeOrchard$Plan", "last", "[I", true)
  | 7 => ("ShoeOrchard$Plan", "age", "[I", true)
  | 8 => ("ShoeOrchard$Plan", "treeName", "[J", true)
  | 9 => ("ShoeOrchard$Plan", "personKind", "[I", true)
  | 10 => ("ShoeOrchard$Plan", "feet", "[I", true)
  | 11 => ("ShoeOrchard$Plan", "personName", "[J", true)
  | 12 => ("ShoeOrchard$Plan", "frost", "[I", true)
  | _ => ("ShoeOrchard$Plan", "formula", "LShoeOrchard$Formula;", true)
def cT8 : u_T := fun k => match k with
  | 0 => ("ShoeOrchard$Queue", "length", "I", false)
  | 1 => ("ShoeOrchard$Queue", "mostShod", "I", false)
  | 2 => ("ShoeOrchard$Queue", "bestRow", "[I", true)
  | 3 => ("ShoeOrchard$Queue", "noon", "I", false)
  | 4 => ("ShoeOrchard$Queue", "trees", "I", false)
  | 5 => ("ShoeOrchard$Queue", "persons", "[I", true)
  | 6 => ("ShoeOrchard$Queue", "tried", "[I", true)
  | 7 => ("ShoeOrchard$Queue", "fitting", "[I", true)
  | _ => ("ShoeOrchard$Queue", "row", "[I", true)
def cT9 : u_T := fun k => match k with
  | 0 => ("ShoeOrchard$State", "year", "I", false)
  | 1 => ("ShoeOrchard$State", "last", "[I", true)
  | 2 => ("ShoeOrchard$State", "age", "[I", true)
  | 3 => ("ShoeOrchard$State", "feet", "[I", true)
  | 4 => ("ShoeOrchard$State", "tried", "[I", true)
  | 5 => ("ShoeOrchard$State", "shod", "[I", true)
  | 6 => ("ShoeOrchard$State", "mate", "[I", true)
  | 7 => ("ShoeOrchard$State", "road", "[I", true)
  | _ => ("ShoeOrchard$State", "plan", "LShoeOrchard$Plan;", true)
def cT10 : u_T := fun k => match k with
  | 0 => ("ShoeOrchard$Tape", "length", "I", false)
  | 1 => ("ShoeOrchard$Tape", "kind", "I", false)
  | 2 => ("ShoeOrchard$Tape", "number", "I", false)
  | 3 => ("ShoeOrchard$Tape", "word", "J", false)
  | 4 => ("ShoeOrchard$Tape", "fault", "I", false)
  | 5 => ("ShoeOrchard$Tape", "signs", "[C", true)
  | 6 => ("ShoeOrchard$Tape", "sign", "C", false)
  | 7 => ("ShoeOrchard$Tape", "place", "I", false)
  | _ => ("ShoeOrchard$Tape", "behind", "I", false)
def cT11 : u_T := fun k => match k with
  | 0 => ("ShoeOrchard", "tape", "LShoeOrchard$Tape;", true)
  | 1 => ("ShoeOrchard", "plan", "LShoeOrchard$Plan;", true)
  | 2 => ("ShoeOrchard", "lines", "LShoeOrchard$Lines;", true)
  | 3 => ("ShoeOrchard", "orchardReader", "LShoeOrchard$OrchardReader;", true)
  | 4 => ("ShoeOrchard", "morningReader", "LShoeOrchard$MorningReader;", true)
  | 5 => ("ShoeOrchard", "now", "LShoeOrchard$State;", true)
  | 6 => ("ShoeOrchard", "trial", "LShoeOrchard$State;", true)
  | 7 => ("ShoeOrchard", "past", "LShoeOrchard$Past;", true)
  | 8 => ("ShoeOrchard", "felt", "LShoeOrchard$Felt;", true)
  | 9 => ("ShoeOrchard", "matching", "LShoeOrchard$Matching;", true)
  | 10 => ("ShoeOrchard", "queue", "LShoeOrchard$Queue;", true)
  | 11 => ("ShoeOrchard", "sizes", "[I", true)
  | 12 => ("ShoeOrchard", "fittingLasts", "[J", true)
  | _ => ("ShoeOrchard", "seed", "J", false)
def cT12 : u_T := fun k => match k with
  | 0 => ("ShoeOrchardModel", "thrown", "I", false)
  | 1 => ("ShoeOrchardModel", "tape", "[I", true)
  | 2 => ("ShoeOrchardModel", "taped", "I", false)
  | 3 => ("ShoeOrchardModel", "size", "I", false)
  | 4 => ("ShoeOrchardModel", "sort", "[I", true)
  | 5 => ("ShoeOrchardModel", "place", "[I", true)
  | 6 => ("ShoeOrchardModel", "value", "[J", true)
  | 7 => ("ShoeOrchardModel", "at", "I", false)
  | 8 => ("ShoeOrchardModel", "fault", "I", false)
  | 9 => ("ShoeOrchardModel", "words", "[J", true)
  | 10 => ("ShoeOrchardModel", "orchards", "[I", true)
  | 11 => ("ShoeOrchardModel", "op", "[I", true)
  | 12 => ("ShoeOrchardModel", "arg", "[I", true)
  | 13 => ("ShoeOrchardModel", "codes", "I", false)
  | 14 => ("ShoeOrchardModel", "names", "[J", true)
  | 15 => ("ShoeOrchardModel", "readNames", "[J", true)
  | 16 => ("ShoeOrchardModel", "nameOf", "[I", true)
  | 17 => ("ShoeOrchardModel", "readNameOf", "[I", true)
  | 18 => ("ShoeOrchardModel", "namesMany", "I", false)
  | 19 => ("ShoeOrchardModel", "readMany", "I", false)
  | 20 => ("ShoeOrchardModel", "once", "I", false)
  | 21 => ("ShoeOrchardModel", "lines", "[I", true)
  | 22 => ("ShoeOrchardModel", "facts", "[I", true)
  | 23 => ("ShoeOrchardModel", "pile", "[I", true)
  | 24 => ("ShoeOrchardModel", "state", "[I", true)
  | 25 => ("ShoeOrchardModel", "undos", "I", false)
  | 26 => ("ShoeOrchardModel", "isMarked", "[Z", true)
  | 27 => ("ShoeOrchardModel", "dealt", "[I", true)
  | 28 => ("ShoeOrchardModel", "bestDealt", "[I", true)
  | 29 => ("ShoeOrchardModel", "mostDealt", "I", false)
  | 30 => ("ShoeOrchardModel", "gone", "[I", true)
  | 31 => ("ShoeOrchardModel", "bestGone", "[I", true)
  | 32 => ("ShoeOrchardModel", "goneMany", "I", false)
  | 33 => ("ShoeOrchardModel", "mostShod", "I", false)
  | _ => ("ShoeOrchardModel", "g", "J", false)
def cT : Nat → u_T := fun c => match c with
  | 0 => cT0
  | 1 => cT1
  | 2 => cT2
  | 3 => cT3
  | 4 => cT4
  | 5 => cT5
  | 6 => cT6
  | 7 => cT7
  | 8 => cT8
  | 9 => cT9
  | 10 => cT10
  | 11 => cT11
  | _ => cT12
abbrev cL : List vw_C := [("ShoeOrchard$Felt", cT0, 3), ("ShoeOrchard$Formula", cT1, 3), ("ShoeOrchard$Lines", cT2, 4), ("ShoeOrchard$Matching", cT3, 7), ("ShoeOrchard$MorningReader", cT4, 1), ("ShoeOrchard$OrchardReader", cT5, 2), ("ShoeOrchard$Past", cT6, 5), ("ShoeOrchard$Plan", cT7, 14), ("ShoeOrchard$Queue", cT8, 9), ("ShoeOrchard$State", cT9, 9), ("ShoeOrchard$Tape", cT10, 9), ("ShoeOrchard", cT11, 14), ("ShoeOrchardModel", cT12, 35)]
def cY0 : Nat → FieldType := fun k => match k with
  | 0 => .int
  | 1 => (.array .int)
  | _ => (.array .boolean)
def cY1 : Nat → FieldType := fun k => match k with
  | 0 => (.array .int)
  | 1 => (.array .int)
  | _ => .int
def cY2 : Nat → FieldType := fun k => match k with
  | 0 => .int
  | 1 => (.array .int)
  | 2 => (.array .int)
  | _ => (.array .int)
def cY3 : Nat → FieldType := fun k => match k with
  | 0 => .int
  | 1 => (.array .int)
  | 2 => (.array .int)
  | 3 => (.array .int)
  | 4 => .int
  | 5 => .int
  | _ => (.array .int)
def cY4 : Nat → FieldType := fun k => match k with
  | _ => (.object "ShoeOrchard$Lines")
def cY5 : Nat → FieldType := fun k => match k with
  | 0 => (.object "ShoeOrchard$Plan")
  | _ => .int
def cY6 : Nat → FieldType := fun k => match k with
  | 0 => .int
  | 1 => (.array (.object "ShoeOrchard$State"))
  | 2 => (.array (.object "ShoeOrchard$State"))
  | 3 => (.array (.object "ShoeOrchard$Felt"))
  | _ => (.array .boolean)
def cY7 : Nat → FieldType := fun k => match k with
  | 0 => .int
  | 1 => .int
  | 2 => .int
  | 3 => .int
  | 4 => .int
  | 5 => (.array .int)
  | 6 => (.array .int)
  | 7 => (.array .int)
  | 8 => (.array .long)
  | 9 => (.array .int)
  | 10 => (.array .int)
  | 11 => (.array .long)
  | 12 => (.array .int)
  | _ => (.object "ShoeOrchard$Formula")
def cY8 : Nat → FieldType := fun k => match k with
  | 0 => .int
  | 1 => .int
  | 2 => (.array .int)
  | 3 => .int
  | 4 => .int
  | 5 => (.array .int)
  | 6 => (.array .int)
  | 7 => (.array .int)
  | _ => (.array .int)
def cY9 : Nat → FieldType := fun k => match k with
  | 0 => .int
  | 1 => (.array .int)
  | 2 => (.array .int)
  | 3 => (.array .int)
  | 4 => (.array .int)
  | 5 => (.array .int)
  | 6 => (.array .int)
  | 7 => (.array .int)
  | _ => (.object "ShoeOrchard$Plan")
def cY10 : Nat → FieldType := fun k => match k with
  | 0 => .int
  | 1 => .int
  | 2 => .int
  | 3 => .long
  | 4 => .int
  | 5 => (.array .char)
  | 6 => .char
  | 7 => .int
  | _ => .int
def cY11 : Nat → FieldType := fun k => match k with
  | 0 => (.object "ShoeOrchard$Tape")
  | 1 => (.object "ShoeOrchard$Plan")
  | 2 => (.object "ShoeOrchard$Lines")
  | 3 => (.object "ShoeOrchard$OrchardReader")
  | 4 => (.object "ShoeOrchard$MorningReader")
  | 5 => (.object "ShoeOrchard$State")
  | 6 => (.object "ShoeOrchard$State")
  | 7 => (.object "ShoeOrchard$Past")
  | 8 => (.object "ShoeOrchard$Felt")
  | 9 => (.object "ShoeOrchard$Matching")
  | 10 => (.object "ShoeOrchard$Queue")
  | 11 => (.array .int)
  | 12 => (.array .long)
  | _ => .long
def cY12 : Nat → FieldType := fun k => match k with
  | 0 => .int
  | 1 => (.array .int)
  | 2 => .int
  | 3 => .int
  | 4 => (.array .int)
  | 5 => (.array .int)
  | 6 => (.array .long)
  | 7 => .int
  | 8 => .int
  | 9 => (.array .long)
  | 10 => (.array .int)
  | 11 => (.array .int)
  | 12 => (.array .int)
  | 13 => .int
  | 14 => (.array .long)
  | 15 => (.array .long)
  | 16 => (.array .int)
  | 17 => (.array .int)
  | 18 => .int
  | 19 => .int
  | 20 => .int
  | 21 => (.array .int)
  | 22 => (.array .int)
  | 23 => (.array .int)
  | 24 => (.array .int)
  | 25 => .int
  | 26 => (.array .boolean)
  | 27 => (.array .int)
  | 28 => (.array .int)
  | 29 => .int
  | 30 => (.array .int)
  | 31 => (.array .int)
  | 32 => .int
  | 33 => .int
  | _ => .long
def cY : Nat → Nat → FieldType := fun c => match c with
  | 0 => cY0
  | 1 => cY1
  | 2 => cY2
  | 3 => cY3
  | 4 => cY4
  | 5 => cY5
  | 6 => cY6
  | 7 => cY7
  | 8 => cY8
  | 9 => cY9
  | 10 => cY10
  | 11 => cY11
  | _ => cY12
/-- the methods: name, bytes, locals, answer -/
def mtL : List (MethodName × ByteArray × Nat × Option FieldType) := [
  (⟨"ShoeOrchard$Felt", "<init>", "()V"⟩, prog_2_method_1_code, 1, none),
  (⟨"ShoeOrchard$Felt", "clear", "()V"⟩, prog_2_method_2_code, 1, none),
  (⟨"ShoeOrchard$Felt", "add", "(IZ)Z"⟩, prog_2_method_4_code, 3, (some .boolean)),
  (⟨"ShoeOrchard$Felt", "allows", "(I[II)Z"⟩, prog_2_method_5_code, 7, (some .boolean)),
  (⟨"ShoeOrchard$Felt", "copy", "(LShoeOrchard$Felt;)V"⟩, prog_2_method_3_code, 3, none),
  (⟨"ShoeOrchard$Formula", "<init>", "()V"⟩, prog_3_method_1_code, 1, none),
  (⟨"ShoeOrchard$Formula", "clear", "()V"⟩, prog_3_method_2_code, 1, none),
  (⟨"ShoeOrchard$Formula", "add", "(I)V"⟩, prog_3_method_3_code, 2, none),
  (⟨"ShoeOrchard$Formula", "copy", "(LShoeOrchard$Formula;)V"⟩, prog_3_method_4_code, 2, none),
  (⟨"ShoeOrchard$Formula", "value", "(IIII)I"⟩, prog_3_method_5_code, 8, (some .int)),
  (⟨"ShoeOrchard$Formula", "joined", "(III)I"⟩, prog_3_method_7_code, 3, (some .int)),
  (⟨"ShoeOrchard$Formula", "fact", "(IIIII)I"⟩, prog_3_method_6_code, 5, (some .int)),
  (⟨"ShoeOrchard$Lines", "<init>", "()V"⟩, prog_4_method_1_code, 1, none),
  (⟨"ShoeOrchard$Lines", "clear", "()V"⟩, prog_4_method_2_code, 1, none),
  (⟨"ShoeOrchard$Lines", "add", "(III)V"⟩, prog_4_method_4_code, 4, none),
  (⟨"ShoeOrchard$Lines", "copy", "(LShoeOrchard$Lines;)V"⟩, prog_4_method_3_code, 2, none),
  (⟨"ShoeOrchard$Lines", "carryOut", "(ILShoeOrchard$State;)I"⟩, prog_4_method_5_code, 5, (some .int)),
  (⟨"ShoeOrchard$Matching", "<init>", "()V"⟩, prog_5_method_1_code, 1, none),
  (⟨"ShoeOrchard$Matching", "begin", "(II)V"⟩, prog_5_method_2_code, 3, none),
  (⟨"ShoeOrchard$Matching", "solve", "()V"⟩, prog_5_method_3_code, 3, none),
  (⟨"ShoeOrchard$Matching", "mostFrom", "(II)I"⟩, prog_5_method_4_code, 5, (some .int)),
  (⟨"ShoeOrchard$Matching", "mostBy", "(III)I"⟩, prog_5_method_6_code, 5, (some .int)),
  (⟨"ShoeOrchard$Matching", "firstOfMost", "(II)I"⟩, prog_5_method_5_code, 4, (some .int)),
  (⟨"ShoeOrchard$MorningReader", "<init>", "()V"⟩, prog_6_method_1_code, 1, none),
  (⟨"ShoeOrchard$MorningReader", "read", "(LShoeOrchard$Tape;LShoeOrchard$Plan;)I"⟩, prog_6_method_2_code, 4, (some .int)),
  (⟨"ShoeOrchard$MorningReader", "readLine", "(LShoeOrchard$Tape;LShoeOrchard$Plan;)Z"⟩, prog_6_method_3_code, 6, (some .boolean)),
  (⟨"ShoeOrchard$MorningReader", "readNamed", "(LShoeOrchard$Tape;LShoeOrchard$Plan;ZI)I"⟩, prog_6_method_4_code, 6, (some .int)),
  (⟨"ShoeOrchard$OrchardReader", "<init>", "()V"⟩, prog_7_method_1_code, 1, none),
  (⟨"ShoeOrchard$OrchardReader", "read", "(LShoeOrchard$Tape;)I"⟩, prog_7_method_2_code, 3, (some .int)),
  (⟨"ShoeOrchard$OrchardReader", "readLine", "(LShoeOrchard$Tape;)Z"⟩, prog_7_method_3_code, 3, (some .boolean)),
  (⟨"ShoeOrchard$OrchardReader", "readTree", "(LShoeOrchard$Tape;)Z"⟩, prog_7_method_5_code, 3, (some .boolean)),
  (⟨"ShoeOrchard$OrchardReader", "isNewName", "(LShoeOrchard$Tape;)Z"⟩, prog_7_method_7_code, 2, (some .boolean)),
  (⟨"ShoeOrchard$OrchardReader", "readPerson", "(LShoeOrchard$Tape;)Z"⟩, prog_7_method_6_code, 3, (some .boolean)),
  (⟨"ShoeOrchard$OrchardReader", "readOnce", "(LShoeOrchard$Tape;I)Z"⟩, prog_7_method_4_code, 3, (some .boolean)),
  (⟨"ShoeOrchard$OrchardReader", "readPinch", "(LShoeOrchard$Tape;)Z"⟩, prog_7_method_8_code, 2, (some .boolean)),
  (⟨"ShoeOrchard$OrchardReader", "readNoon", "(LShoeOrchard$Tape;)Z"⟩, prog_7_method_9_code, 2, (some .boolean)),
  (⟨"ShoeOrchard$OrchardReader", "readFrosts", "(LShoeOrchard$Tape;)Z"⟩, prog_7_method_10_code, 4, (some .boolean)),
  (⟨"ShoeOrchard$OrchardReader", "readE", "(LShoeOrchard$Tape;I)Z"⟩, prog_7_method_11_code, 5, (some .boolean)),
  (⟨"ShoeOrchard$OrchardReader", "readTest", "(LShoeOrchard$Tape;I)Z"⟩, prog_7_method_12_code, 4, (some .boolean)),
  (⟨"ShoeOrchard$OrchardReader", "readSum", "(LShoeOrchard$Tape;I)Z"⟩, prog_7_method_13_code, 5, (some .boolean)),
  (⟨"ShoeOrchard$OrchardReader", "readProduct", "(LShoeOrchard$Tape;I)Z"⟩, prog_7_method_14_code, 4, (some .boolean)),
  (⟨"ShoeOrchard$OrchardReader", "readPart", "(LShoeOrchard$Tape;I)Z"⟩, prog_7_method_15_code, 8, (some .boolean)),
  (⟨"ShoeOrchard$Past", "<init>", "(LShoeOrchard$Plan;)V"⟩, prog_8_method_1_code, 3, none),
  (⟨"ShoeOrchard$Past", "forgetAll", "()V"⟩, prog_8_method_2_code, 2, none),
  (⟨"ShoeOrchard$Past", "keep", "(LShoeOrchard$State;)V"⟩, prog_8_method_3_code, 2, none),
  (⟨"ShoeOrchard$Past", "dropOldest", "()V"⟩, prog_8_method_4_code, 3, none),
  (⟨"ShoeOrchard$Past", "bringBack", "(LShoeOrchard$State;)Z"⟩, prog_8_method_5_code, 2, (some .boolean)),
  (⟨"ShoeOrchard$Past", "goBack", "(ILShoeOrchard$State;LShoeOrchard$Felt;)Z"⟩, prog_8_method_7_code, 4, (some .boolean)),
  (⟨"ShoeOrchard$Past", "lay", "(ILShoeOrchard$State;LShoeOrchard$Felt;)V"⟩, prog_8_method_6_code, 4, none),
  (⟨"ShoeOrchard$Plan", "<init>", "()V"⟩, prog_9_method_1_code, 1, none),
  (⟨"ShoeOrchard$Plan", "clear", "()V"⟩, prog_9_method_2_code, 1, none),
  (⟨"ShoeOrchard$Plan", "treeNamed", "(J)I"⟩, prog_9_method_6_code, 4, (some .int)),
  (⟨"ShoeOrchard$Plan", "personNamed", "(J)I"⟩, prog_9_method_7_code, 4, (some .int)),
  (⟨"ShoeOrchard$Plan", "copy", "(LShoeOrchard$Plan;)V"⟩, prog_9_method_3_code, 2, none),
  (⟨"ShoeOrchard$Plan", "isTree", "(I)Z"⟩, prog_9_method_4_code, 2, (some .boolean)),
  (⟨"ShoeOrchard$Plan", "frostOf", "(I)I"⟩, prog_9_method_8_code, 2, (some .int)),
  (⟨"ShoeOrchard$Plan", "standsFrost", "(II)Z"⟩, prog_9_method_9_code, 3, (some .boolean)),
  (⟨"ShoeOrchard$Plan", "sizeBy", "(III)I"⟩, prog_9_method_11_code, 5, (some .int)),
  (⟨"ShoeOrchard$Plan", "isPerson", "(I)Z"⟩, prog_9_method_5_code, 2, (some .boolean)),
  (⟨"ShoeOrchard$Plan", "pinched", "(III)I"⟩, prog_9_method_12_code, 7, (some .int)),
  (⟨"ShoeOrchard$Plan", "roadBy", "(I)I"⟩, prog_9_method_10_code, 2, (some .int)),
  (⟨"ShoeOrchard$Queue", "<init>", "()V"⟩, prog_10_method_1_code, 1, none),
  (⟨"ShoeOrchard$Queue", "begin", "(II)V"⟩, prog_10_method_2_code, 3, none),
  (⟨"ShoeOrchard$Queue", "add", "(III)V"⟩, prog_10_method_3_code, 4, none),
  (⟨"ShoeOrchard$Queue", "solve", "(I)V"⟩, prog_10_method_4_code, 2, none),
  (⟨"ShoeOrchard$Queue", "goOn", "(IIII)V"⟩, prog_10_method_5_code, 8, none),
  (⟨"ShoeOrchard$Queue", "treeFor", "(II)I"⟩, prog_10_method_6_code, 5, (some .int)),
  (⟨"ShoeOrchard$State", "<init>", "(LShoeOrchard$Plan;)V"⟩, prog_11_method_1_code, 2, none),
  (⟨"ShoeOrchard$State", "begin", "()V"⟩, prog_11_method_2_code, 1, none),
  (⟨"ShoeOrchard$State", "beginMorning", "()V"⟩, prog_11_method_3_code, 1, none),
  (⟨"ShoeOrchard$State", "sizeOf", "(I)I"⟩, prog_11_method_7_code, 2, (some .int)),
  (⟨"ShoeOrchard$State", "bears", "(I)Z"⟩, prog_11_method_5_code, 2, (some .boolean)),
  (⟨"ShoeOrchard$State", "holders", "(I)I"⟩, prog_11_method_9_code, 4, (some .int)),
  (⟨"ShoeOrchard$State", "suits", "(II)Z"⟩, prog_11_method_8_code, 4, (some .boolean)),
  (⟨"ShoeOrchard$State", "canTry", "(II)Z"⟩, prog_11_method_12_code, 3, (some .boolean)),
  (⟨"ShoeOrchard$State", "copy", "(LShoeOrchard$State;)V"⟩, prog_11_method_4_code, 2, none),
  (⟨"ShoeOrchard$State", "attempt", "(II)Z"⟩, prog_11_method_13_code, 3, (some .boolean)),
  (⟨"ShoeOrchard$State", "putOn", "(II)V"⟩, prog_11_method_14_code, 3, none),
  (⟨"ShoeOrchard$State", "canJoin", "(II)Z"⟩, prog_11_method_15_code, 4, (some .boolean)),
  (⟨"ShoeOrchard$State", "join", "(II)V"⟩, prog_11_method_16_code, 3, none),
  (⟨"ShoeOrchard$State", "blend", "(II)V"⟩, prog_11_method_17_code, 3, none),
  (⟨"ShoeOrchard$State", "trim", "(I)V"⟩, prog_11_method_18_code, 2, none),
  (⟨"ShoeOrchard$State", "passYear", "()V"⟩, prog_11_method_19_code, 1, none),
  (⟨"ShoeOrchard$State", "passYearOf", "(I)V"⟩, prog_11_method_20_code, 3, none),
  (⟨"ShoeOrchard$State", "allRoad", "()I"⟩, prog_11_method_11_code, 3, (some .int)),
  (⟨"ShoeOrchard$State", "bearingTrees", "()I"⟩, prog_11_method_6_code, 3, (some .int)),
  (⟨"ShoeOrchard$State", "shodPersons", "()I"⟩, prog_11_method_10_code, 3, (some .int)),
  (⟨"ShoeOrchard$Tape", "<init>", "()V"⟩, prog_12_method_1_code, 1, none),
  (⟨"ShoeOrchard$Tape", "add", "(I)V"⟩, prog_12_method_2_code, 3, none),
  (⟨"ShoeOrchard$Tape", "beginReading", "()V"⟩, prog_12_method_4_code, 1, none),
  (⟨"ShoeOrchard$Tape", "next", "()V"⟩, prog_12_method_5_code, 1, none),
  (⟨"ShoeOrchard$Tape", "isBlank", "(C)Z"⟩, prog_12_method_8_code, 1, (some .boolean)),
  (⟨"ShoeOrchard$Tape", "isLetter", "(C)Z"⟩, prog_12_method_9_code, 1, (some .boolean)),
  (⟨"ShoeOrchard$Tape", "readWord", "()V"⟩, prog_12_method_6_code, 1, none),
  (⟨"ShoeOrchard$Tape", "isDigit", "(C)Z"⟩, prog_12_method_10_code, 1, (some .boolean)),
  (⟨"ShoeOrchard$Tape", "readNumber", "()V"⟩, prog_12_method_7_code, 1, none),
  (⟨"ShoeOrchard$Tape", "among", "(Ljava/lang/String;)I"⟩, prog_12_method_14_code, 5, (some .int)),
  (⟨"ShoeOrchard$Tape", "isPartOf", "(Ljava/lang/String;II)Z"⟩, prog_12_method_15_code, 5, (some .boolean)),
  (⟨"ShoeOrchard$Tape", "wrong", "(I)Z"⟩, prog_12_method_16_code, 2, (some .boolean)),
  (⟨"ShoeOrchard$Tape", "isName", "()Z"⟩, prog_12_method_13_code, 1, (some .boolean)),
  (⟨"ShoeOrchard$Tape", "takeAmong", "(Ljava/lang/String;)I"⟩, prog_12_method_19_code, 3, (some .int)),
  (⟨"ShoeOrchard$Tape", "takeWord", "(Ljava/lang/String;)Z"⟩, prog_12_method_18_code, 2, (some .boolean)),
  (⟨"ShoeOrchard$Tape", "isWord", "(Ljava/lang/String;)Z"⟩, prog_12_method_12_code, 2, (some .boolean)),
  (⟨"ShoeOrchard$Tape", "takeNumber", "(II)I"⟩, prog_12_method_20_code, 4, (some .int)),
  (⟨"ShoeOrchard$Tape", "isSign", "(C)Z"⟩, prog_12_method_11_code, 2, (some .boolean)),
  (⟨"ShoeOrchard$Tape", "takeSign", "(C)Z"⟩, prog_12_method_17_code, 2, (some .boolean)),
  (⟨"ShoeOrchard$Tape", "clear", "()V"⟩, prog_12_method_3_code, 1, none),
  (⟨"ShoeOrchard", "<init>", "()V"⟩, prog_1_method_1_code, 1, none),
  (⟨"ShoeOrchard", "feed", "(JJJ)I"⟩, prog_1_method_2_code, 7, (some .int)),
  (⟨"ShoeOrchard", "feedBytes", "(J)V"⟩, prog_1_method_37_code, 4, none),
  (⟨"ShoeOrchard", "orchard", "()I"⟩, prog_1_method_3_code, 2, (some .int)),
  (⟨"ShoeOrchard", "morning", "()I"⟩, prog_1_method_4_code, 2, (some .int)),
  (⟨"ShoeOrchard", "tree", "(II)I"⟩, prog_1_method_5_code, 3, (some .int)),
  (⟨"ShoeOrchard", "person", "(II)I"⟩, prog_1_method_6_code, 3, (some .int)),
  (⟨"ShoeOrchard", "fits", "(II)Z"⟩, prog_1_method_7_code, 3, (some .boolean)),
  (⟨"ShoeOrchard", "tryOn", "(II)I"⟩, prog_1_method_8_code, 3, (some .int)),
  (⟨"ShoeOrchard", "share", "(II)Z"⟩, prog_1_method_9_code, 3, (some .boolean)),
  (⟨"ShoeOrchard", "graft", "(II)I"⟩, prog_1_method_10_code, 3, (some .int)),
  (⟨"ShoeOrchard", "prune", "(I)I"⟩, prog_1_method_11_code, 2, (some .int)),
  (⟨"ShoeOrchard", "year", "()I"⟩, prog_1_method_12_code, 1, (some .int)),
  (⟨"ShoeOrchard", "undo", "()Z"⟩, prog_1_method_13_code, 1, (some .boolean)),
  (⟨"ShoeOrchard", "judged", "(I)I"⟩, prog_1_method_14_code, 6, (some .int)),
  (⟨"ShoeOrchard", "fitted", "(I)I"⟩, prog_1_method_15_code, 2, (some .int)),
  (⟨"ShoeOrchard", "measure", "(LShoeOrchard$State;)V"⟩, prog_1_method_38_code, 3, none),
  (⟨"ShoeOrchard", "fittingTrees", "(LShoeOrchard$State;I)I"⟩, prog_1_method_39_code, 5, (some .int)),
  (⟨"ShoeOrchard", "wearers", "(I)I"⟩, prog_1_method_16_code, 2, (some .int)),
  (⟨"ShoeOrchard", "fittingPersons", "(I)I"⟩, prog_1_method_40_code, 4, (some .int)),
  (⟨"ShoeOrchard", "shoes", "(I)I"⟩, prog_1_method_17_code, 2, (some .int)),
  (⟨"ShoeOrchard", "matched", "(IZ)I"⟩, prog_1_method_42_code, 6, (some .int)),
  (⟨"ShoeOrchard", "freeTrees", "()I"⟩, prog_1_method_41_code, 3, (some .int)),
  (⟨"ShoeOrchard", "roads", "(I)I"⟩, prog_1_method_18_code, 2, (some .int)),
  (⟨"ShoeOrchard", "order", "(I)I"⟩, prog_1_method_19_code, 3, (some .int)),
  (⟨"ShoeOrchard", "mends", "(I)I"⟩, prog_1_method_20_code, 3, (some .int)),
  (⟨"ShoeOrchard", "findFittingLasts", "(I)V"⟩, prog_1_method_43_code, 3, none),
  (⟨"ShoeOrchard", "lastsThatFit", "(II)J"⟩, prog_1_method_44_code, 7, (some .long)),
  (⟨"ShoeOrchard", "mendable", "(I)Z"⟩, prog_1_method_45_code, 6, (some .boolean)),
  (⟨"ShoeOrchard", "someLastFits", "()Z"⟩, prog_1_method_46_code, 2, (some .boolean)),
  (⟨"ShoeOrchard", "when", "(I)I"⟩, prog_1_method_21_code, 3, (some .int)),
  (⟨"ShoeOrchard", "later", "(II)I"⟩, prog_1_method_22_code, 4, (some .int)),
  (⟨"ShoeOrchard", "feel", "(IZ)Z"⟩, prog_1_method_23_code, 3, (some .boolean)),
  (⟨"ShoeOrchard", "feet", "(I)I"⟩, prog_1_method_24_code, 6, (some .int)),
  (⟨"ShoeOrchard", "ask", "()I"⟩, prog_1_method_25_code, 7, (some .int)),
  (⟨"ShoeOrchard", "allowedFeetFitting", "(I)I"⟩, prog_1_method_47_code, 4, (some .int)),
  (⟨"ShoeOrchard", "pairs", "()I"⟩, prog_1_method_26_code, 5, (some .int)),
  (⟨"ShoeOrchard", "idle", "()I"⟩, prog_1_method_27_code, 3, (some .int)),
  (⟨"ShoeOrchard", "sole", "()I"⟩, prog_1_method_28_code, 3, (some .int)),
  (⟨"ShoeOrchard", "twins", "()I"⟩, prog_1_method_29_code, 4, (some .int)),
  (⟨"ShoeOrchard", "best", "()I"⟩, prog_1_method_30_code, 5, (some .int)),
  (⟨"ShoeOrchard", "lack", "(I)I"⟩, prog_1_method_31_code, 5, (some .int)),
  (⟨"ShoeOrchard", "chance", "(III)I"⟩, prog_1_method_32_code, 8, (some .int)),
  (⟨"ShoeOrchard", "likelihood", "(III)I"⟩, prog_1_method_48_code, 6, (some .int)),
  (⟨"ShoeOrchard", "ages", "(III)I"⟩, prog_1_method_34_code, 7, (some .int)),
  (⟨"ShoeOrchard", "stepOfAges", "()Z"⟩, prog_1_method_51_code, 7, (some .boolean)),
  (⟨"ShoeOrchard", "draw", "(I)I"⟩, prog_1_method_52_code, 2, (some .int)),
  (⟨"ShoeOrchard", "mark", "(IZ)Z"⟩, prog_1_method_35_code, 3, (some .boolean)),
  (⟨"ShoeOrchard", "count", "(I)I"⟩, prog_1_method_36_code, 2, (some .int)),
  (⟨"ShoeOrchard", "rests", "(IIII)I"⟩, prog_1_method_33_code, 11, (some .int)),
  (⟨"ShoeOrchard", "isPay", "(I)Z"⟩, prog_1_method_49_code, 1, (some .boolean)),
  (⟨"ShoeOrchard", "pay", "(IIIII)I"⟩, prog_1_method_50_code, 5, (some .int)),
  (⟨"ShoeOrchardModel", "thrown", "()I"⟩, prog_14_method_1_code, 1, (some .int)),
  (⟨"ShoeOrchardModel", "feed", "(JJJ)I"⟩, prog_14_method_2_code, 7, (some .int)),
  (⟨"ShoeOrchardModel", "lay", "(J)V"⟩, prog_14_method_3_code, 5, none),
  (⟨"ShoeOrchardModel", "<init>", "()V"⟩, prog_14_method_4_code, 1, none),
  (⟨"ShoeOrchardModel", "standsAsAlways", "(I)V"⟩, prog_14_method_18_code, 3, none),
  (⟨"ShoeOrchardModel", "begins", "()V"⟩, prog_14_method_42_code, 2, none),
  (⟨"ShoeOrchardModel", "starts", "(I)V"⟩, prog_14_method_41_code, 3, none),
  (⟨"ShoeOrchardModel", "trees", "()I"⟩, prog_14_method_44_code, 1, (some .int)),
  (⟨"ShoeOrchardModel", "treeOf", "(II)I"⟩, prog_14_method_46_code, 3, (some .int)),
  (⟨"ShoeOrchardModel", "persons", "()I"⟩, prog_14_method_45_code, 1, (some .int)),
  (⟨"ShoeOrchardModel", "personOf", "(II)I"⟩, prog_14_method_47_code, 3, (some .int)),
  (⟨"ShoeOrchardModel", "orchard", "()I"⟩, prog_14_method_26_code, 2, (some .int)),
  (⟨"ShoeOrchardModel", "cutAll", "()V"⟩, prog_14_method_9_code, 7, none),
  (⟨"ShoeOrchardModel", "isLetter", "(I)Z"⟩, prog_14_method_5_code, 1, (some .boolean)),
  (⟨"ShoeOrchardModel", "rank", "(I)I"⟩, prog_14_method_7_code, 1, (some .int)),
  (⟨"ShoeOrchardModel", "isDigit", "(I)Z"⟩, prog_14_method_6_code, 1, (some .boolean)),
  (⟨"ShoeOrchardModel", "isSignOf", "(I)Z"⟩, prog_14_method_8_code, 1, (some .boolean)),
  (⟨"ShoeOrchardModel", "readLine", "()V"⟩, prog_14_method_27_code, 5, none),
  (⟨"ShoeOrchardModel", "isWord", "(I)Z"⟩, prog_14_method_12_code, 2, (some .boolean)),
  (⟨"ShoeOrchardModel", "readName", "(III)V"⟩, prog_14_method_28_code, 5, none),
  (⟨"ShoeOrchardModel", "wrong", "(I)V"⟩, prog_14_method_10_code, 2, none),
  (⟨"ShoeOrchardModel", "isName", "()Z"⟩, prog_14_method_23_code, 1, (some .boolean)),
  (⟨"ShoeOrchardModel", "wordHere", "(II)I"⟩, prog_14_method_21_code, 5, (some .int)),
  (⟨"ShoeOrchardModel", "nameAt", "(Z)I"⟩, prog_14_method_24_code, 3, (some .int)),
  (⟨"ShoeOrchardModel", "takeOne", "(II)I"⟩, prog_14_method_22_code, 4, (some .int)),
  (⟨"ShoeOrchardModel", "takeAfter", "(III)I"⟩, prog_14_method_20_code, 4, (some .int)),
  (⟨"ShoeOrchardModel", "takeWord", "(I)V"⟩, prog_14_method_16_code, 2, none),
  (⟨"ShoeOrchardModel", "hasWord", "(I)Z"⟩, prog_14_method_15_code, 3, (some .boolean)),
  (⟨"ShoeOrchardModel", "takeNumber", "(II)I"⟩, prog_14_method_19_code, 3, (some .int)),
  (⟨"ShoeOrchardModel", "readOnce", "()V"⟩, prog_14_method_29_code, 2, none),
  (⟨"ShoeOrchardModel", "readFrost", "()V"⟩, prog_14_method_30_code, 3, none),
  (⟨"ShoeOrchardModel", "whole", "(I)V"⟩, prog_14_method_33_code, 3, none),
  (⟨"ShoeOrchardModel", "test", "(I)V"⟩, prog_14_method_34_code, 3, none),
  (⟨"ShoeOrchardModel", "sums", "(I)V"⟩, prog_14_method_35_code, 3, none),
  (⟨"ShoeOrchardModel", "products", "(I)V"⟩, prog_14_method_36_code, 2, none),
  (⟨"ShoeOrchardModel", "takePart", "(I)V"⟩, prog_14_method_37_code, 4, none),
  (⟨"ShoeOrchardModel", "isSign", "(I)Z"⟩, prog_14_method_11_code, 2, (some .boolean)),
  (⟨"ShoeOrchardModel", "emit", "(II)V"⟩, prog_14_method_32_code, 3, none),
  (⟨"ShoeOrchardModel", "hasSign", "(I)Z"⟩, prog_14_method_14_code, 3, (some .boolean)),
  (⟨"ShoeOrchardModel", "takeSign", "(I)V"⟩, prog_14_method_13_code, 2, none),
  (⟨"ShoeOrchardModel", "morning", "()I"⟩, prog_14_method_31_code, 4, (some .int)),
  (⟨"ShoeOrchardModel", "takeTold", "(II)I"⟩, prog_14_method_25_code, 4, (some .int)),
  (⟨"ShoeOrchardModel", "within", "(III)Z"⟩, prog_14_method_17_code, 3, (some .boolean)),
  (⟨"ShoeOrchardModel", "tree", "(II)I"⟩, prog_14_method_69_code, 3, (some .int)),
  (⟨"ShoeOrchardModel", "isTree", "(I)Z"⟩, prog_14_method_48_code, 2, (some .boolean)),
  (⟨"ShoeOrchardModel", "doesBear", "(II)Z"⟩, prog_14_method_52_code, 3, (some .boolean)),
  (⟨"ShoeOrchardModel", "frostOf", "(I)I"⟩, prog_14_method_50_code, 2, (some .int)),
  (⟨"ShoeOrchardModel", "stands", "(II)Z"⟩, prog_14_method_51_code, 4, (some .boolean)),
  (⟨"ShoeOrchardModel", "sizeOf", "(II)I"⟩, prog_14_method_53_code, 4, (some .int)),
  (⟨"ShoeOrchardModel", "worthAt", "(I)I"⟩, prog_14_method_38_code, 5, (some .int)),
  (⟨"ShoeOrchardModel", "both", "(III)I"⟩, prog_14_method_39_code, 3, (some .int)),
  (⟨"ShoeOrchardModel", "haveOf", "(II)I"⟩, prog_14_method_57_code, 5, (some .int)),
  (⟨"ShoeOrchardModel", "person", "(II)I"⟩, prog_14_method_70_code, 3, (some .int)),
  (⟨"ShoeOrchardModel", "isPerson", "(I)Z"⟩, prog_14_method_49_code, 2, (some .boolean)),
  (⟨"ShoeOrchardModel", "fits", "(II)Z"⟩, prog_14_method_71_code, 3, (some .boolean)),
  (⟨"ShoeOrchardModel", "doesFit", "(III)Z"⟩, prog_14_method_56_code, 4, (some .boolean)),
  (⟨"ShoeOrchardModel", "pinchBy", "(III)I"⟩, prog_14_method_55_code, 8, (some .int)),
  (⟨"ShoeOrchardModel", "apart", "(II)I"⟩, prog_14_method_54_code, 2, (some .int)),
  (⟨"ShoeOrchardModel", "tryOn", "(II)I"⟩, prog_14_method_72_code, 3, (some .int)),
  (⟨"ShoeOrchardModel", "mayTry", "(III)Z"⟩, prog_14_method_59_code, 4, (some .boolean)),
  (⟨"ShoeOrchardModel", "keeps", "()V"⟩, prog_14_method_43_code, 2, none),
  (⟨"ShoeOrchardModel", "copies", "(III)V"⟩, prog_14_method_40_code, 5, none),
  (⟨"ShoeOrchardModel", "tries", "(III)Z"⟩, prog_14_method_60_code, 5, (some .boolean)),
  (⟨"ShoeOrchardModel", "isShodBy", "(III)V"⟩, prog_14_method_61_code, 4, none),
  (⟨"ShoeOrchardModel", "roadBy", "(I)I"⟩, prog_14_method_58_code, 3, (some .int)),
  (⟨"ShoeOrchardModel", "share", "(II)Z"⟩, prog_14_method_73_code, 3, (some .boolean)),
  (⟨"ShoeOrchardModel", "mayShare", "(III)Z"⟩, prog_14_method_62_code, 5, (some .boolean)),
  (⟨"ShoeOrchardModel", "shares", "(III)V"⟩, prog_14_method_63_code, 4, none),
  (⟨"ShoeOrchardModel", "graft", "(II)I"⟩, prog_14_method_74_code, 3, (some .int)),
  (⟨"ShoeOrchardModel", "grafts", "(III)V"⟩, prog_14_method_64_code, 4, none),
  (⟨"ShoeOrchardModel", "prune", "(I)I"⟩, prog_14_method_75_code, 2, (some .int)),
  (⟨"ShoeOrchardModel", "prunes", "(II)V"⟩, prog_14_method_65_code, 3, none),
  (⟨"ShoeOrchardModel", "year", "()I"⟩, prog_14_method_76_code, 1, (some .int)),
  (⟨"ShoeOrchardModel", "passes", "(II)V"⟩, prog_14_method_66_code, 5, none),
  (⟨"ShoeOrchardModel", "undo", "()Z"⟩, prog_14_method_77_code, 1, (some .boolean)),
  (⟨"ShoeOrchardModel", "judged", "(I)I"⟩, prog_14_method_78_code, 9, (some .int)),
  (⟨"ShoeOrchardModel", "roadOfAll", "(I)I"⟩, prog_14_method_67_code, 4, (some .int)),
  (⟨"ShoeOrchardModel", "fitted", "(I)I"⟩, prog_14_method_80_code, 2, (some .int)),
  (⟨"ShoeOrchardModel", "fittedOf", "(II)I"⟩, prog_14_method_79_code, 5, (some .int)),
  (⟨"ShoeOrchardModel", "wearers", "(I)I"⟩, prog_14_method_82_code, 2, (some .int)),
  (⟨"ShoeOrchardModel", "wearersOf", "(I)I"⟩, prog_14_method_81_code, 4, (some .int)),
  (⟨"ShoeOrchardModel", "shoes", "(I)I"⟩, prog_14_method_85_code, 2, (some .int)),
  (⟨"ShoeOrchardModel", "dealtTo", "(IZ)I"⟩, prog_14_method_84_code, 3, (some .int)),
  (⟨"ShoeOrchardModel", "deals", "(IIIZ)V"⟩, prog_14_method_83_code, 6, none),
  (⟨"ShoeOrchardModel", "roads", "(I)I"⟩, prog_14_method_86_code, 2, (some .int)),
  (⟨"ShoeOrchardModel", "order", "(I)I"⟩, prog_14_method_90_code, 3, (some .int)),
  (⟨"ShoeOrchardModel", "shodOf", "(I)I"⟩, prog_14_method_87_code, 4, (some .int)),
  (⟨"ShoeOrchardModel", "bits", "(I)I"⟩, prog_14_method_68_code, 3, (some .int)),
  (⟨"ShoeOrchardModel", "orders", "(II)V"⟩, prog_14_method_89_code, 5, none),
  (⟨"ShoeOrchardModel", "goesOut", "(I)V"⟩, prog_14_method_88_code, 3, none),
  (⟨"ShoeOrchardModel", "mends", "(I)I"⟩, prog_14_method_92_code, 3, (some .int)),
  (⟨"ShoeOrchardModel", "isMended", "(III)Z"⟩, prog_14_method_91_code, 9, (some .boolean)),
  (⟨"ShoeOrchardModel", "when", "(I)I"⟩, prog_14_method_93_code, 3, (some .int)),
  (⟨"ShoeOrchardModel", "later", "(II)I"⟩, prog_14_method_94_code, 4, (some .int)),
  (⟨"ShoeOrchardModel", "lack", "(I)I"⟩, prog_14_method_95_code, 5, (some .int)),
  (⟨"ShoeOrchardModel", "feel", "(IZ)Z"⟩, prog_14_method_96_code, 4, (some .boolean)),
  (⟨"ShoeOrchardModel", "feet", "(I)I"⟩, prog_14_method_99_code, 7, (some .int)),
  (⟨"ShoeOrchardModel", "isFelt", "(I)Z"⟩, prog_14_method_98_code, 5, (some .boolean)),
  (⟨"ShoeOrchardModel", "fitsFeet", "(II)Z"⟩, prog_14_method_97_code, 3, (some .boolean)),
  (⟨"ShoeOrchardModel", "ask", "()I"⟩, prog_14_method_100_code, 8, (some .int)),
  (⟨"ShoeOrchardModel", "pairs", "()I"⟩, prog_14_method_101_code, 4, (some .int)),
  (⟨"ShoeOrchardModel", "idle", "()I"⟩, prog_14_method_102_code, 3, (some .int)),
  (⟨"ShoeOrchardModel", "sole", "()I"⟩, prog_14_method_103_code, 3, (some .int)),
  (⟨"ShoeOrchardModel", "twins", "()I"⟩, prog_14_method_104_code, 4, (some .int)),
  (⟨"ShoeOrchardModel", "best", "()I"⟩, prog_14_method_105_code, 5, (some .int)),
  (⟨"ShoeOrchardModel", "chance", "(III)I"⟩, prog_14_method_106_code, 13, (some .int)),
  (⟨"ShoeOrchardModel", "rests", "(IIII)I"⟩, prog_14_method_108_code, 12, (some .int)),
  (⟨"ShoeOrchardModel", "getsBy", "(IIIII)I"⟩, prog_14_method_107_code, 5, (some .int)),
  (⟨"ShoeOrchardModel", "ages", "(III)I"⟩, prog_14_method_111_code, 6, (some .int)),
  (⟨"ShoeOrchardModel", "drawsDeeds", "()Z"⟩, prog_14_method_110_code, 7, (some .boolean)),
  (⟨"ShoeOrchardModel", "draw", "(I)I"⟩, prog_14_method_109_code, 2, (some .int)),
  (⟨"ShoeOrchardModel", "mark", "(IZ)Z"⟩, prog_14_method_112_code, 3, (some .boolean)),
  (⟨"ShoeOrchardModel", "count", "(I)I"⟩, prog_14_method_114_code, 2, (some .int)),
  (⟨"ShoeOrchardModel", "bearing", "()I"⟩, prog_14_method_113_code, 3, (some .int)),
  (⟨"java/lang/String", "indexOf", "(I)I"⟩, prog_23_method_79_code, 2, (some .int)),
  (⟨"java/lang/String", "indexOf", "(II)I"⟩, prog_23_method_80_code, 3, (some .int)),
  (⟨"java/lang/String", "isLatin1", "()Z"⟩, prog_23_method_154_code, 1, (some .boolean)),
  (⟨"java/lang/String", "length", "()I"⟩, prog_23_method_54_code, 1, (some .int)),
  (⟨"java/lang/String", "coder", "()B"⟩, prog_23_method_152_code, 1, (some .byte)),
  (⟨"java/lang/String", "charAt", "(I)C"⟩, prog_23_method_56_code, 2, (some .char)),
  (⟨"java/lang/String", "checkIndex", "(II)V"⟩, prog_23_method_155_code, 2, none),
  (⟨"java/lang/StringLatin1", "indexOf", "([BIII)I"⟩, prog_24_method_22_code, 4, (some .int)),
  (⟨"java/lang/StringLatin1", "canEncode", "(I)Z"⟩, prog_24_method_4_code, 1, (some .boolean)),
  (⟨"java/lang/StringLatin1", "indexOfChar", "([BIII)I"⟩, prog_24_method_23_code, 6, (some .int)),
  (⟨"java/lang/StringLatin1", "charAt", "([BI)C"⟩, prog_24_method_2_code, 2, (some .char)),
  (⟨"java/util/Arrays", "fill", "([II)V"⟩, prog_30_method_103_code, 4, none),
  (⟨"java/lang/Integer", "bitCount", "(I)I"⟩, prog_20_method_49_code, 1, (some .int)),
  (⟨"java/lang/Math", "max", "(II)I"⟩, prog_21_method_65_code, 2, (some .int)),
  (⟨"java/lang/Math", "min", "(II)I"⟩, prog_21_method_69_code, 2, (some .int)),
  (⟨"java/lang/Math", "abs", "(I)I"⟩, prog_21_method_59_code, 1, (some .int)),
  (⟨"jdk/internal/util/Preconditions", "checkIndex", "(IILjava/util/function/BiFunction;)I"⟩, prog_32_method_11_code, 3, (some .int)),
  (⟨"ShoeOrchardLaw", "law", "([I)Z"⟩, code, 7, (some .boolean)),
  (⟨"ShoeOrchardLaw", "rests", "(LShoeOrchard;IIII[J)I"⟩, ⟨#[]⟩, 0, none)]
def mt0 : MethodName × ByteArray × Nat × Option FieldType := (⟨"", "", ""⟩, ⟨#[]⟩, 0, none)
def yy (j : Nat) : MethodName := (mtL.getD j mt0).1
def bb (j : Nat) : ByteArray := (mtL.getD j mt0).2.1
def ml (j : Nat) : Nat := (mtL.getD j mt0).2.2.1
def rr (j : Nat) : Option FieldType := (mtL.getD j mt0).2.2.2
def acL : List Nat := [1, 1, 3, 4, 2, 1, 1, 2, 2, 5, 3, 5, 1, 1, 4, 2, 3, 1, 3, 1, 3, 4, 3, 1, 3, 3, 5, 1, 2, 2, 2, 2, 2, 3, 2, 2, 2, 3, 3, 3, 3, 3, 2, 1, 2, 1, 2, 4, 4, 1, 1, 2, 2, 2, 2, 2, 3, 4, 2, 4, 2, 1, 3, 4, 2, 5, 3, 2, 1, 1, 2, 2, 2, 3, 3, 2, 3, 3, 3, 3, 3, 2, 1, 2, 1, 1, 1, 1, 2, 1, 1, 1, 1, 1, 1, 1, 2, 4, 2, 1, 2, 2, 2, 3, 2, 2, 1, 1, 4, 2, 1, 1, 3, 3, 3, 3, 3, 3, 2, 1, 1, 2, 2, 2, 3, 2, 2, 2, 3, 1, 2, 2, 2, 2, 3, 2, 1, 2, 3, 3, 2, 1, 2, 1, 1, 1, 1, 1, 2, 4, 3, 4, 1, 2, 3, 2, 5, 1, 5, 1, 4, 2, 1, 2, 1, 2, 1, 3, 1, 3, 1, 1, 1, 1, 1, 1, 1, 2, 4, 2, 1, 3, 2, 3, 4, 2, 2, 3, 1, 1, 2, 2, 2, 2, 2, 2, 3, 2, 2, 1, 3, 3, 3, 2, 3, 2, 3, 3, 2, 3, 3, 3, 2, 3, 4, 4, 2, 3, 4, 1, 4, 4, 4, 2, 3, 4, 4, 3, 4, 2, 3, 1, 3, 1, 2, 2, 2, 3, 2, 2, 2, 3, 5, 2, 2, 2, 1, 3, 2, 2, 4, 2, 3, 2, 3, 2, 2, 3, 1, 1, 1, 1, 1, 1, 4, 5, 5, 4, 1, 2, 3, 2, 1, 2, 3, 1, 1, 1, 2, 2, 4, 1, 4, 2, 2, 1, 2, 2, 1, 3, 1, 6]
def ac (j : Nat) : Nat := acL.getD j 0
def kdL : List Nat := [0, 0, 0, 0, 0, 1, 1, 1, 1, 1, 99, 99, 2, 2, 2, 2, 2, 3, 3, 3, 3, 3, 3, 4, 4, 4, 4, 5, 5, 5, 5, 5, 5, 5, 5, 5, 5, 5, 5, 5, 5, 5, 6, 6, 6, 6, 6, 6, 6, 7, 7, 7, 7, 7, 7, 7, 7, 7, 7, 7, 7, 8, 8, 8, 8, 8, 8, 9, 9, 9, 9, 9, 9, 9, 9, 9, 9, 9, 9, 9, 9, 9, 9, 9, 9, 9, 9, 10, 10, 10, 10, 99, 99, 10, 99, 10, 10, 10, 10, 10, 10, 10, 10, 10, 10, 10, 10, 11, 11, 11, 11, 11, 11, 11, 11, 11, 11, 11, 11, 11, 11, 11, 11, 11, 11, 11, 11, 11, 11, 11, 11, 11, 11, 11, 11, 11, 11, 11, 11, 11, 11, 11, 11, 11, 11, 11, 11, 11, 11, 11, 99, 11, 11, 11, 11, 11, 11, 99, 99, 12, 12, 12, 12, 12, 12, 12, 12, 12, 12, 12, 12, 12, 99, 99, 99, 99, 12, 12, 12, 12, 12, 12, 12, 12, 12, 12, 12, 12, 12, 12, 12, 12, 12, 12, 12, 12, 12, 12, 12, 12, 12, 99, 12, 12, 12, 12, 12, 12, 12, 99, 12, 12, 12, 12, 12, 12, 99, 12, 12, 12, 12, 12, 12, 12, 12, 12, 12, 12, 12, 12, 12, 12, 12, 12, 12, 12, 12, 12, 12, 12, 12, 12, 12, 12, 12, 12, 99, 12, 12, 12, 12, 12, 12, 12, 12, 12, 12, 12, 12, 12, 12, 12, 12, 12, 12, 12, 99, 12, 12, 12, 12, 12, 12, 20, 20, 20, 20, 20, 20, 99, 99, 99, 99, 99, 99, 99, 99, 99, 99, 99, 99, 99]
def kd (j : Nat) : Nat := kdL.getD j 99
def owL : List Nat := [0, 0, 0, 0, 0, 1, 1, 1, 1, 1, 1, 1, 2, 2, 2, 2, 2, 3, 3, 3, 3, 3, 3, 4, 4, 4, 4, 5, 5, 5, 5, 5, 5, 5, 5, 5, 5, 5, 5, 5, 5, 5, 6, 6, 6, 6, 6, 6, 6, 7, 7, 7, 7, 7, 7, 7, 7, 7, 7, 7, 7, 8, 8, 8, 8, 8, 8, 9, 9, 9, 9, 9, 9, 9, 9, 9, 9, 9, 9, 9, 9, 9, 9, 9, 9, 9, 9, 10, 10, 10, 10, 10, 10, 10, 10, 10, 10, 10, 10, 10, 10, 10, 10, 10, 10, 10, 10, 11, 11, 11, 11, 11, 11, 11, 11, 11, 11, 11, 11, 11, 11, 11, 11, 11, 11, 11, 11, 11, 11, 11, 11, 11, 11, 11, 11, 11, 11, 11, 11, 11, 11, 11, 11, 11, 11, 11, 11, 11, 11, 11, 11, 11, 11, 11, 11, 11, 11, 11, 11, 12, 12, 12, 12, 12, 12, 12, 12, 12, 12, 12, 12, 12, 12, 12, 12, 12, 12, 12, 12, 12, 12, 12, 12, 12, 12, 12, 12, 12, 12, 12, 12, 12, 12, 12, 12, 12, 12, 12, 12, 12, 12, 12, 12, 12, 12, 12, 12, 12, 12, 12, 12, 12, 12, 12, 12, 12, 12, 12, 12, 12, 12, 12, 12, 12, 12, 12, 12, 12, 12, 12, 12, 12, 12, 12, 12, 12, 12, 12, 12, 12, 12, 12, 12, 12, 12, 12, 12, 12, 12, 12, 12, 12, 12, 12, 12, 12, 12, 12, 12, 12, 12, 12, 12, 12, 12, 12, 12, 12, 12, 12, 12, 12, 12, 14, 14, 14, 14, 14, 14, 14, 15, 15, 15, 15, 16, 17, 18, 18, 18, 19, 13, 13]
def ow (j : Nat) : Nat := owL.getD j 99
def FL : List ((Nat × Nat × Nat) × Nat) := [((0, 9, 1), 390), ((0, 15, 2), 391), ((0, 19, 0), 388), ((1, 9, 64), 198), ((1, 15, 65), 199), ((1, 18, 66), 200), ((2, 9, 129), 289), ((2, 15, 130), 290), ((2, 18, 131), 291), ((2, 21, 128), 286), ((3, 9, 193), 427), ((3, 15, 194), 429), ((3, 18, 195), 431), ((3, 21, 198), 435), ((3, 30, 196), 433), ((3, 34, 197), 434), ((3, 46, 192), 425), ((4, 12, 256), 325), ((4, 26, 641), 151), ((4, 38, 644), 159), ((4, 51, 128), 287), ((4, 69, 643), 156), ((5, 12, 320), 309), ((5, 21, 321), 311), ((5, 30, 641), 152), ((5, 41, 644), 160), ((5, 79, 448), 211), ((5, 85, 456), 237), ((5, 89, 643), 157), ((5, 93, 453), 229), ((5, 108, 454), 232), ((5, 116, 455), 235), ((5, 118, 449), 215), ((5, 121, 459), 246), ((5, 124, 457), 240), ((5, 131, 458), 244), ((5, 144, 450), 219), ((5, 147, 451), 222), ((5, 150, 460), 248), ((5, 153, 452), 226), ((5, 156, 642), 155), ((5, 169, 461), 250), ((6, 11, 385), 402), ((6, 17, 386), 403), ((6, 22, 387), 404), ((6, 26, 388), 405), ((6, 34, 384), 400), ((7, 9, 453), 227), ((7, 15, 454), 230), ((7, 18, 455), 233), ((7, 21, 456), 236), ((7, 25, 457), 238), ((7, 28, 458), 242), ((7, 31, 459), 245), ((7, 34, 460), 247), ((7, 40, 461), 249), ((7, 44, 448), 210), ((7, 48, 449), 214), ((7, 51, 450), 218), ((7, 54, 451), 221), ((7, 57, 452), 225), ((8, 9, 514), 461), ((8, 15, 517), 465), ((8, 18, 518), 466), ((8, 21, 519), 467), ((8, 24, 520), 468), ((8, 27, 512), 457), ((8, 31, 515), 463), ((8, 40, 516), 464), ((8, 43, 513), 459), ((9, 9, 577), 338), ((9, 15, 578), 340), ((9, 18, 579), 342), ((9, 21, 580), 344), ((9, 24, 581), 346), ((9, 27, 582), 348), ((9, 30, 583), 350), ((9, 33, 584), 352), ((9, 37, 576), 336), ((9, 41, 454), 231), ((9, 50, 455), 234), ((9, 51, 458), 243), ((9, 69, 448), 212), ((9, 86, 449), 216), ((9, 89, 451), 223), ((9, 127, 457), 241), ((10, 9, 645), 162), ((10, 15, 640), 150), ((10, 19, 648), 165), ((10, 22, 644), 161), ((10, 32, 647), 164), ((10, 35, 641), 153), ((10, 50, 646), 163), ((10, 62, 643), 158), ((10, 68, 642), 154), ((11, 10, 704), 510), ((11, 19, 705), 511), ((11, 26, 706), 512), ((11, 33, 707), 513), ((11, 40, 708), 514), ((11, 49, 709), 515), ((11, 53, 710), 516), ((11, 59, 711), 517), ((11, 66, 712), 518), ((11, 73, 713), 519), ((11, 80, 714), 520), ((11, 84, 715), 521), ((11, 88, 716), 522), ((11, 102, 640), 149), ((11, 111, 320), 310), ((11, 123, 256), 326), ((11, 131, 453), 228), ((11, 134, 577), 339), ((11, 137, 578), 341), ((11, 150, 457), 239), ((11, 153, 579), 343), ((11, 156, 581), 347), ((11, 159, 580), 345), ((11, 162, 583), 351), ((11, 165, 582), 349), ((11, 199, 576), 337), ((11, 206, 128), 288), ((11, 232, 451), 224), ((11, 235, 448), 213), ((11, 240, 449), 217), ((11, 253, 513), 460), ((11, 256, 512), 458), ((11, 257, 514), 462), ((11, 271, 450), 220), ((11, 321, 717), 523), ((11, 346, 0), 389), ((11, 347, 384), 401), ((11, 353, 194), 430), ((11, 359, 193), 428), ((11, 364, 192), 426), ((11, 367, 195), 432), ((12, 1, 768), 1457), ((12, 11, 770), 1459), ((12, 14, 769), 1458), ((12, 24, 772), 1461), ((12, 27, 773), 1462), ((12, 30, 774), 1463), ((12, 92, 777), 1466), ((12, 95, 778), 1467), ((12, 98, 779), 1468), ((12, 101, 780), 1469), ((12, 104, 782), 1471), ((12, 107, 783), 1472), ((12, 110, 784), 1473), ((12, 113, 785), 1474), ((12, 116, 789), 1478), ((12, 119, 790), 1479), ((12, 122, 791), 1480), ((12, 125, 792), 1481), ((12, 128, 794), 1483), ((12, 132, 795), 1484), ((12, 135, 796), 1485), ((12, 138, 798), 1487), ((12, 141, 799), 1488), ((12, 155, 771), 1460), ((12, 174, 775), 1464), ((12, 177, 776), 1465), ((12, 202, 787), 1476), ((12, 205, 786), 1475), ((12, 223, 781), 1470), ((12, 226, 788), 1477), ((12, 296, 793), 1482), ((12, 375, 797), 1486), ((12, 395, 801), 1490), ((12, 401, 800), 1489), ((12, 419, 802), 1491), ((14, 9, 1000), 1993), ((14, 15, 1001), 1992)]
def ML : List ((Nat × Nat × Nat) × Nat) := [((0, 29, 288), 1210), ((1, 28, 10), 927), ((1, 32, 11), 930), ((2, 31, 74), 1061), ((2, 37, 76), 1062), ((2, 40, 78), 1063), ((2, 43, 79), 1064), ((2, 47, 80), 1065), ((2, 50, 81), 1066), ((2, 54, 82), 1067), ((3, 24, 287), 1114), ((3, 37, 284), 1120), ((3, 43, 20), 1121), ((3, 49, 22), 1130), ((3, 52, 21), 1125), ((3, 56, 286), 1129), ((4, 18, 13), 864), ((4, 21, 89), 865), ((4, 30, 25), 866), ((4, 34, 105), 885), ((4, 43, 96), 871), ((4, 47, 98), 872), ((4, 54, 90), 873), ((4, 57, 26), 874), ((4, 61, 14), 881), ((4, 65, 99), 878), ((4, 73, 52), 879), ((4, 79, 51), 880), ((5, 18, 50), 574), ((5, 25, 89), 575), ((5, 33, 29), 688), ((5, 37, 105), 818), ((5, 46, 96), 693), ((5, 50, 30), 722), ((5, 53, 32), 769), ((5, 56, 33), 775), ((5, 60, 34), 779), ((5, 63, 35), 783), ((5, 66, 36), 787), ((5, 69, 37), 791), ((5, 72, 98), 726), ((5, 76, 90), 730), ((5, 82, 31), 731), ((5, 99, 100), 750), ((5, 104, 101), 756), ((5, 110, 103), 764), ((5, 133, 99), 735), ((5, 137, 51), 741), ((5, 141, 52), 745), ((5, 159, 38), 795), ((5, 164, 102), 812), ((5, 175, 7), 823), ((5, 179, 39), 799), ((5, 182, 104), 813), ((5, 185, 40), 803), ((5, 188, 41), 807), ((6, 30, 67), 382), ((6, 38, 45), 977), ((6, 41, 75), 981), ((6, 45, 4), 1284), ((7, 60, 6), 492), ((7, 69, 8), 838), ((7, 73, 54), 915), ((7, 83, 55), 922), ((7, 87, 9), 923), ((7, 91, 287), 933), ((7, 97, 286), 934), ((7, 100, 58), 960), ((7, 103, 288), 961), ((8, 34, 287), 1146), ((8, 46, 65), 1155), ((8, 56, 66), 1160), ((9, 52, 284), 503), ((9, 58, 69), 506), ((9, 61, 55), 907), ((9, 65, 56), 911), ((9, 72, 71), 903), ((9, 76, 57), 918), ((9, 80, 58), 955), ((9, 83, 59), 956), ((9, 92, 72), 972), ((9, 95, 74), 989), ((9, 98, 73), 990), ((9, 101, 77), 991), ((9, 105, 60), 995), ((9, 108, 54), 1021), ((9, 111, 286), 1030), ((9, 117, 83), 1039), ((9, 121, 81), 1043), ((9, 124, 287), 1044), ((10, 25, 90), 579), ((10, 28, 91), 583), ((10, 38, 92), 586), ((10, 41, 93), 589), ((10, 44, 94), 594), ((10, 47, 95), 597), ((10, 56, 273), 602), ((10, 71, 276), 697), ((10, 74, 97), 718), ((10, 80, 96), 740), ((10, 84, 278), 698), ((10, 88, 104), 822), ((10, 91, 98), 754), ((10, 95, 102), 760), ((11, 46, 67), 332), ((11, 58, 42), 374), ((11, 92, 50), 488), ((11, 95, 68), 496), ((11, 98, 109), 557), ((11, 106, 28), 570), ((11, 110, 106), 829), ((11, 112, 53), 833), ((11, 115, 13), 843), ((11, 116, 1), 847), ((11, 117, 43), 851), ((11, 120, 24), 860), ((11, 124, 15), 886), ((11, 127, 54), 895), ((11, 140, 70), 899), ((11, 144, 72), 935), ((11, 147, 58), 943), ((11, 168, 73), 951), ((11, 172, 74), 968), ((11, 175, 44), 973), ((11, 179, 76), 985), ((11, 182, 78), 1005), ((11, 185, 79), 1009), ((11, 189, 80), 1017), ((11, 192, 81), 1026), ((11, 196, 82), 1035), ((11, 202, 46), 1049), ((11, 207, 16), 1057), ((11, 211, 84), 1068), ((11, 215, 123), 1076), ((11, 218, 124), 1080), ((11, 222, 71), 1089), ((11, 225, 126), 1090), ((11, 228, 128), 1098), ((11, 238, 62), 1142), ((11, 243, 63), 1147), ((11, 247, 129), 1102), ((11, 250, 64), 1151), ((11, 260, 133), 1168), ((11, 263, 75), 1177), ((11, 265, 135), 1178), ((11, 268, 2), 1198), ((11, 274, 3), 1206), ((11, 278, 142), 1215), ((11, 281, 286), 1220), ((11, 287, 285), 1233), ((11, 292, 59), 1084), ((11, 296, 287), 1251), ((11, 299, 83), 1256), ((11, 302, 150), 1257), ((11, 305, 157), 1310), ((11, 315, 158), 1378), ((11, 325, 152), 1264), ((11, 329, 47), 1280), ((11, 333, 48), 1289), ((11, 337, 55), 1297), ((11, 340, 85), 1106), ((11, 343, 86), 1298), ((11, 350, 88), 562), ((11, 352, 18), 1110), ((11, 356, 60), 1115), ((11, 362, 19), 1116), ((11, 370, 134), 1172), ((11, 374, 57), 1176), ((11, 377, 136), 1182), ((11, 380, 288), 1219), ((11, 383, 153), 1268), ((12, 7, 161), 1390), ((12, 144, 163), 1429), ((12, 148, 164), 1433), ((12, 151, 172), 1571), ((12, 160, 173), 1575), ((12, 164, 174), 1578), ((12, 171, 175), 1583), ((12, 180, 195), 1662), ((12, 183, 179), 1598), ((12, 186, 177), 1590), ((12, 189, 186), 1626), ((12, 192, 185), 1622), ((12, 195, 187), 1630), ((12, 199, 181), 1606), ((12, 208, 180), 1602), ((12, 212, 182), 1610), ((12, 216, 201), 1686), ((12, 220, 171), 1567), ((12, 229, 176), 1586), ((12, 232, 198), 1674), ((12, 235, 178), 1594), ((12, 239, 183), 1614), ((12, 242, 184), 1618), ((12, 246, 188), 1634), ((12, 249, 189), 1638), ((12, 252, 190), 1642), ((12, 255, 196), 1666), ((12, 259, 200), 1682), ((12, 262, 191), 1646), ((12, 265, 192), 1650), ((12, 268, 197), 1670), ((12, 271, 193), 1654), ((12, 274, 194), 1658), ((12, 277, 209), 1717), ((12, 280, 166), 1441), ((12, 284, 167), 1445), ((12, 287, 168), 1449), ((12, 290, 169), 1453), ((12, 293, 165), 1437), ((12, 299, 220), 1759), ((12, 302, 205), 1701), ((12, 305, 206), 1705), ((12, 309, 208), 1713), ((12, 312, 216), 1744), ((12, 315, 204), 1697), ((12, 318, 207), 1709), ((12, 321, 215), 1740), ((12, 324, 210), 1720), ((12, 327, 214), 1736), ((12, 330, 222), 1767), ((12, 333, 223), 1771), ((12, 336, 230), 1799), ((12, 339, 203), 1693), ((12, 342, 212), 1728), ((12, 345, 218), 1751), ((12, 348, 219), 1755), ((12, 351, 221), 1763), ((12, 354, 225), 1779), ((12, 357, 226), 1783), ((12, 360, 228), 1791), ((12, 363, 232), 1807), ((12, 366, 235), 1819), ((12, 369, 237), 1827), ((12, 372, 239), 1835), ((12, 378, 242), 1847), ((12, 382, 241), 1843), ((12, 386, 248), 1870), ((12, 389, 245), 1859), ((12, 392, 246), 1863), ((12, 398, 247), 1866), ((12, 404, 250), 1878), ((12, 407, 257), 1906), ((12, 410, 256), 1902), ((12, 415, 266), 1943), ((12, 431, 269), 1954), ((12, 434, 268), 1950), ((12, 437, 272), 1970), ((13, 15, 107), 137), ((13, 18, 162), 1396), ((13, 21, 108), 553), ((13, 25, 160), 1386), ((13, 26, 110), 566), ((13, 30, 170), 1563), ((13, 31, 111), 856), ((13, 34, 199), 1678), ((13, 35, 112), 891), ((13, 39, 202), 1689), ((13, 40, 113), 939), ((13, 43, 211), 1724), ((13, 44, 114), 947), ((13, 48, 213), 1732), ((13, 49, 115), 964), ((13, 52, 217), 1747), ((13, 53, 116), 1001), ((13, 56, 224), 1775), ((13, 57, 117), 1013), ((13, 60, 227), 1787), ((13, 61, 118), 1022), ((13, 65, 229), 1795), ((13, 66, 119), 1031), ((13, 69, 231), 1803), ((13, 70, 120), 1045), ((13, 74, 233), 1811), ((13, 75, 121), 1053), ((13, 78, 234), 1815), ((13, 79, 122), 1072), ((13, 82, 236), 1823), ((13, 83, 125), 1085), ((13, 86, 238), 1831), ((13, 87, 127), 1094), ((13, 90, 240), 1839), ((13, 91, 130), 1134), ((13, 94, 243), 1851), ((13, 95, 131), 1138), ((13, 98, 244), 1855), ((13, 99, 132), 1164), ((13, 102, 249), 1874), ((13, 103, 137), 1186), ((13, 106, 251), 1882), ((13, 107, 138), 1190), ((13, 110, 252), 1886), ((13, 111, 139), 1194), ((13, 115, 254), 1894), ((13, 116, 140), 1202), ((13, 119, 255), 1898), ((13, 120, 141), 1211), ((13, 123, 258), 1910), ((13, 124, 143), 1221), ((13, 127, 259), 1914), ((13, 128, 144), 1225), ((13, 131, 260), 1918), ((13, 132, 145), 1229), ((13, 135, 261), 1922), ((13, 136, 146), 1239), ((13, 139, 262), 1926), ((13, 140, 147), 1243), ((13, 143, 263), 1930), ((13, 144, 148), 1247), ((13, 147, 253), 1890), ((13, 148, 149), 1252), ((13, 152, 264), 1934), ((13, 153, 291), 1302), ((13, 158, 265), 1939), ((13, 159, 159), 1382), ((13, 162, 151), 1260), ((13, 165, 267), 1946), ((13, 166, 154), 1276), ((13, 169, 270), 1962), ((13, 170, 155), 1293), ((13, 173, 271), 1966), ((14, 335, 277), 620), ((14, 492, 275), 610), ((14, 495, 283), 702), ((14, 505, 276), 616), ((14, 633, 274), 606), ((14, 637, 280), 624), ((14, 1059, 289), 708), ((15, 9, 279), 705), ((15, 38, 287), 633), ((15, 88, 281), 627), ((15, 92, 286), 630), ((15, 95, 282), 636)]
def MLN : List ((Nat × Nat × Nat) × Nat) := [((4, 11, 12), 324), ((5, 11, 49), 308), ((6, 33, 0), 384), ((7, 39, 5), 194), ((11, 9, 87), 145), ((11, 18, 49), 188), ((11, 25, 12), 282), ((11, 32, 27), 303), ((11, 39, 23), 319), ((11, 65, 0), 418), ((11, 72, 17), 421), ((11, 79, 61), 453)]
def CK : List ((Nat × Nat × Nat) × Nat) := [((4, 9, 2), 323), ((5, 9, 7), 307), ((6, 9, 9), 378), ((6, 20, 0), 380), ((7, 37, 1), 192), ((11, 7, 10), 143), ((11, 16, 7), 186), ((11, 23, 2), 280), ((11, 30, 5), 301), ((11, 37, 4), 317), ((11, 44, 9), 330), ((11, 56, 6), 372), ((11, 63, 0), 417), ((11, 70, 3), 419), ((11, 77, 8), 451), ((13, 8, 11), 135), ((13, 16, 12), 1395)]
def LK : List ((Nat × Nat × Int) × Nat) := [((10, 66, 32), 593), ((11, 348, 255), 561), ((11, 386, 1103515245), 1272), ((11, 388, 12345), 1273), ((11, 390, 2147483648), 1274), ((11, 392, 65536), 1275), ((12, 34, 1037892), 1400), ((12, 36, 609928), 1401), ((12, 38, 1633), 1402), ((12, 40, 1119812451), 1403), ((12, 42, 310968), 1404), ((12, 44, 30461738), 1405), ((12, 46, 730246), 1406), ((12, 48, 12177978), 1407), ((12, 50, 4003641), 1408), ((12, 52, 28071), 1409), ((12, 54, 36016323), 1410), ((12, 56, 14032492), 1411), ((12, 58, 30927602), 1412), ((12, 60, 1273225), 1413), ((12, 62, 173192972), 1414), ((12, 64, 122416), 1415), ((12, 66, 49598629259), 1416), ((12, 68, 1320124011), 1417), ((12, 70, 30596128), 1418), ((12, 72, 6040476), 1419), ((12, 74, 583696626), 1420), ((12, 76, 20983), 1421), ((12, 78, 19741), 1422), ((12, 80, 1891), 1423), ((12, 82, 573), 1424), ((12, 84, 975695), 1425), ((12, 86, 47109344), 1426), ((12, 88, 6040484), 1427), ((12, 90, 204726), 1428), ((12, 158, 37), 1574), ((12, 167, 10), 1581), ((12, 169, 48), 1582), ((12, 413, 1000000), 1938), ((12, 423, 1103515245), 1958), ((12, 425, 12345), 1959), ((12, 427, 2147483648), 1960), ((12, 429, 65536), 1961), ((13, 19, 4294967295), 1974)]
def IK : List ((Nat × Nat × Int) × Nat) := [((17, 265, 1431655765), 1236), ((17, 266, 858993459), 1237), ((17, 267, 252645135), 1238)]
def SK : List ((Nat × Nat × Nat) × Nat) := [((4, 41, 12), 870), ((5, 44, 1), 692), ((5, 97, 3), 749), ((5, 102, 4), 755), ((5, 114, 5), 768), ((5, 127, 6), 773), ((5, 129, 7), 774), ((5, 162, 10), 827), ((5, 167, 11), 828), ((5, 191, 8), 811), ((5, 193, 9), 817), ((10, 54, 0), 601), ((10, 78, 2), 739)]
def OB : List ((Nat × Nat) × Nat) := [((0, 3), 387), ((1, 3), 197), ((2, 3), 285), ((3, 3), 424), ((4, 3), 322), ((5, 3), 306), ((6, 3), 377), ((7, 3), 191), ((8, 3), 456), ((9, 3), 335), ((10, 3), 148), ((11, 1), 140), ((12, 18), 1399)]
def AC : List ((Nat × Nat) × Nat) := [((0, 23), 1288), ((1, 22), 842), ((2, 25), 890), ((7, 63), 837), ((8, 50), 1159), ((9, 44), 500)]
def GS : List ((Nat × Nat × Nat) × Nat) := [((14, 38, 0), 614), ((14, 1053, 202), 657)]
def GN : List ((Nat × Nat × Nat) × Nat) := [((7, 77, 200), 916), ((7, 80, 201), 999)]
def fr (n : Nat) : String × String × String := if n = 1000 then ("java/lang/String", "value", "[B") else if n = 1001 then ("java/lang/String", "coder", "B") else ((cT (n / 64) (n % 64)).1, (cT (n / 64) (n % 64)).2.1, (cT (n / 64) (n % 64)).2.2.1)
def gs (n : Nat) : String × String × String := if n = 0 then ("java/lang/String", "COMPACT_STRINGS", "Z") else if n = 200 then ("ShoeOrchard", "STANDS", "[I") else if n = 201 then ("ShoeOrchard", "ROAD", "[I") else ("jdk/internal/util/Preconditions", "SIOOBE_FORMATTER", "Ljava/util/function/BiFunction;")
def fFL (q : Nat × Nat × Nat) : Cond := .fieldLink (on q.1) q.2.1 (fr q.2.2).1 (fr q.2.2).2.1 (fr q.2.2).2.2
def fML (q : Nat × Nat × Nat) : Cond := .methodLink (on q.1) q.2.1 (yy q.2.2)
def fMLN (q : Nat × Nat × Nat) : Cond := .methodLinkNest (on q.1) q.2.1 (yy q.2.2) "ShoeOrchard"
def fCK (q : Nat × Nat × Nat) : Cond := .classLink (on q.1) q.2.1 (on q.2.2)
def fLK (q : Nat × Nat × Int) : Cond := .constantLong (on q.1) q.2.1 (Int64.ofInt q.2.2)
def fIK (q : Nat × Nat × Int) : Cond := .constant (on q.1) q.2.1 (Int32.ofInt q.2.2)
def fOB (q : Nat × Nat) : Cond := .methodLink (on q.1) q.2 objectInit
def fAC (q : Nat × Nat) : Cond := .methodLink (on q.1) q.2 arraycopyName
def fGS (q : Nat × Nat × Nat) : Cond := .fieldLink (on q.1) q.2.1 (gs q.2.2).1 (gs q.2.2).2.1 (gs q.2.2).2.2
def fGN (q : Nat × Nat × Nat) : Cond := .fieldLinkNest (on q.1) q.2.1 (gs q.2.2).1 (gs q.2.2).2.1 (gs q.2.2).2.2 "ShoeOrchard"
def fSK (q : Nat × Nat × Nat) : Cond := .stringRef (on q.1) q.2.1 (String.ofList ((tS.getD q.2.2 []).map (fun c => Char.ofNat c.toInt.toNat)))
theorem FL_ok : ∀ q ∈ FL, fFL q.1 ∈ gT := gT_in fFL FL (by decide +kernel)
theorem ML_ok : ∀ q ∈ ML, fML q.1 ∈ gT := gT_in fML ML (by decide +kernel)
theorem CK_ok : ∀ q ∈ CK, fCK q.1 ∈ gT := gT_in fCK CK (by decide +kernel)
theorem LK_ok : ∀ q ∈ LK, fLK q.1 ∈ gT := gT_in fLK LK (by decide +kernel)
theorem IK_ok : ∀ q ∈ IK, fIK q.1 ∈ gT := gT_in fIK IK (by decide +kernel)
theorem OB_ok : ∀ q ∈ OB, fOB q.1 ∈ gT := gT_in fOB OB (by decide +kernel)
theorem AC_ok : ∀ q ∈ AC, fAC q.1 ∈ gT := gT_in fAC AC (by decide +kernel)
theorem GS_ok : ∀ q ∈ GS, fGS q.1 ∈ gT := gT_in fGS GS (by decide +kernel)
theorem MLN_ok : ∀ q ∈ MLN, fMLN q.1 ∈ lw_tbl := tb_in fMLN MLN (by decide +kernel)
theorem GN_ok : ∀ q ∈ GN, fGN q.1 ∈ lw_tbl := tb_in fGN GN (by decide +kernel)
def fCO (j : Nat) : Cond := .code (yy j) (bb j) (ml j) (rr j)
def SO : List (Nat × Nat) := [(10, 928), (11, 931), (91, 584), (92, 587), (94, 595), (150, 1258), (157, 1311), (158, 1379), (172, 1572), (173, 1576), (174, 1579), (175, 1584), (201, 1687), (209, 1718), (216, 1745), (246, 1864), (266, 1944), (279, 706), (280, 625), (281, 628), (282, 637), (283, 703), (284, 504), (285, 1234), (286, 631), (287, 634), (288, 962), (289, 709), (291, 1303)]
def fSO (j : Nat) : Cond := .static (yy j)
def NO : List (Nat × Nat) := [(0, 385), (1, 848), (2, 1199), (3, 1207), (4, 1285), (5, 195), (6, 493), (7, 824), (8, 839), (9, 924), (12, 283), (13, 844), (14, 882), (15, 887), (16, 1058), (17, 422), (18, 1111), (19, 1117), (20, 1123), (21, 1127), (22, 1132), (23, 320), (24, 861), (25, 868), (26, 876), (27, 304), (28, 571), (29, 690), (30, 724), (31, 733), (32, 771), (33, 777), (34, 781), (35, 785), (36, 789), (37, 793), (38, 797), (39, 801), (40, 805), (41, 809), (42, 375), (43, 852), (44, 974), (45, 979), (46, 1050), (47, 1281), (48, 1290), (49, 189), (50, 489), (51, 742), (52, 746), (53, 834), (54, 896), (55, 908), (56, 912), (57, 919), (58, 944), (59, 957), (60, 996), (61, 454), (62, 1143), (63, 1148), (64, 1152), (65, 1157), (66, 1162), (67, 333), (68, 497), (69, 508), (70, 900), (71, 904), (72, 936), (73, 952), (74, 969), (75, 982), (76, 986), (77, 993), (78, 1006), (79, 1010), (80, 1018), (81, 1027), (82, 1036), (83, 1040), (84, 1069), (85, 1107), (86, 1299), (87, 146), (88, 563), (89, 576), (90, 580), (93, 591), (95, 599), (96, 694), (97, 720), (98, 727), (99, 736), (100, 751), (101, 757), (102, 761), (103, 765), (104, 814), (105, 819), (106, 830), (107, 138), (108, 554), (109, 559), (110, 567), (111, 857), (112, 892), (113, 940), (114, 948), (115, 965), (116, 1002), (117, 1014), (118, 1023), (119, 1032), (120, 1046), (121, 1054), (122, 1073), (123, 1078), (124, 1082), (125, 1086), (126, 1092), (127, 1095), (128, 1100), (129, 1104), (130, 1135), (131, 1139), (132, 1165), (133, 1170), (134, 1174), (135, 1180), (136, 1184), (137, 1187), (138, 1191), (139, 1195), (140, 1203), (141, 1212), (142, 1217), (143, 1222), (144, 1226), (145, 1230), (146, 1240), (147, 1244), (148, 1248), (149, 1253), (151, 1261), (152, 1266), (153, 1270), (154, 1277), (155, 1294), (156, 1307), (159, 1383), (160, 1387), (161, 1392), (162, 1397), (163, 1431), (164, 1435), (165, 1439), (166, 1443), (167, 1447), (168, 1451), (169, 1455), (170, 1564), (171, 1569), (176, 1588), (177, 1592), (178, 1596), (179, 1600), (180, 1604), (181, 1608), (182, 1612), (183, 1616), (184, 1620), (185, 1624), (186, 1628), (187, 1632), (188, 1636), (189, 1640), (190, 1644), (191, 1648), (192, 1652), (193, 1656), (194, 1660), (195, 1664), (196, 1668), (197, 1672), (198, 1676), (199, 1679), (200, 1684), (202, 1690), (203, 1695), (204, 1699), (205, 1703), (206, 1707), (207, 1711), (208, 1715), (210, 1722), (211, 1725), (212, 1730), (213, 1733), (214, 1738), (215, 1742), (217, 1748), (218, 1753), (219, 1757), (220, 1761), (221, 1765), (222, 1769), (223, 1773), (224, 1776), (225, 1781), (226, 1785), (227, 1788), (228, 1793), (229, 1796), (230, 1801), (231, 1804), (232, 1809), (233, 1812), (234, 1816), (235, 1821), (236, 1824), (237, 1829), (238, 1832), (239, 1837), (240, 1840), (241, 1845), (242, 1849), (243, 1852), (244, 1856), (245, 1861), (247, 1868), (248, 1872), (249, 1875), (250, 1880), (251, 1883), (252, 1887), (253, 1891), (254, 1895), (255, 1899), (256, 1904), (257, 1908), (258, 1911), (259, 1915), (260, 1919), (261, 1923), (262, 1927), (263, 1931), (264, 1935), (265, 1940), (267, 1947), (268, 1952), (269, 1956), (270, 1963), (271, 1967), (272, 1972), (273, 603), (274, 607), (275, 611), (276, 617), (277, 621), (278, 699)]
def fNO (j : Nat) : Cond := .instanceMethod (yy j)
def EO : List (Nat × Nat) := [(1, 849), (2, 1200), (3, 1208), (4, 1286), (6, 494), (7, 825), (8, 840), (9, 925), (13, 845), (14, 883), (15, 888), (16, 1059), (18, 1112), (19, 1118), (20, 27), (21, 28), (22, 29), (24, 862), (25, 18), (26, 19), (28, 572), (29, 4), (30, 6), (31, 7), (32, 8), (33, 9), (34, 10), (35, 11), (36, 12), (37, 13), (38, 14), (39, 15), (40, 16), (41, 17), (43, 853), (44, 975), (45, 20), (46, 1051), (47, 1282), (48, 1291), (50, 490), (51, 743), (52, 747), (53, 835), (54, 897), (55, 909), (56, 913), (57, 920), (58, 945), (59, 958), (60, 997), (62, 1144), (63, 1149), (64, 1153), (65, 30), (66, 31), (68, 498), (69, 0), (70, 901), (71, 905), (72, 937), (73, 953), (74, 970), (75, 983), (76, 987), (77, 21), (78, 1007), (79, 1011), (80, 1019), (81, 1028), (82, 1037), (83, 1041), (84, 1070), (85, 1108), (86, 1300), (88, 564), (89, 577), (90, 581), (93, 2), (95, 3), (96, 695), (97, 5), (98, 728), (99, 737), (100, 752), (101, 758), (102, 762), (103, 766), (104, 815), (105, 820), (106, 831), (108, 555), (109, 1), (110, 568), (111, 858), (112, 893), (113, 941), (114, 949), (115, 966), (116, 1003), (117, 1015), (118, 1024), (119, 1033), (120, 1047), (121, 1055), (122, 1074), (123, 22), (124, 23), (125, 1087), (126, 24), (127, 1096), (128, 25), (129, 26), (130, 1136), (131, 1140), (132, 1166), (133, 32), (134, 33), (135, 34), (136, 35), (137, 1188), (138, 1192), (139, 1196), (140, 1204), (141, 1213), (142, 36), (143, 1223), (144, 1227), (145, 1231), (146, 1241), (147, 1245), (148, 1249), (149, 1254), (151, 1262), (152, 37), (153, 38), (154, 1278), (155, 1295), (156, 1308), (159, 1384), (160, 1388), (161, 40), (163, 41), (164, 42), (165, 43), (166, 44), (167, 45), (168, 46), (169, 47), (170, 1565), (171, 48), (176, 49), (177, 50), (178, 51), (179, 52), (180, 53), (181, 54), (182, 55), (183, 56), (184, 57), (185, 58), (186, 59), (187, 60), (188, 61), (189, 62), (190, 63), (191, 64), (192, 65), (193, 66), (194, 67), (195, 68), (196, 69), (197, 70), (198, 71), (199, 1680), (200, 72), (202, 1691), (203, 73), (204, 74), (205, 75), (206, 76), (207, 77), (208, 78), (210, 79), (211, 1726), (212, 80), (213, 1734), (214, 81), (215, 82), (217, 1749), (218, 83), (219, 84), (220, 85), (221, 86), (222, 87), (223, 88), (224, 1777), (225, 89), (226, 90), (227, 1789), (228, 91), (229, 1797), (230, 92), (231, 1805), (232, 93), (233, 1813), (234, 1817), (235, 94), (236, 1825), (237, 95), (238, 1833), (239, 96), (240, 1841), (241, 97), (242, 98), (243, 1853), (244, 1857), (245, 99), (247, 100), (248, 101), (249, 1876), (250, 102), (251, 1884), (252, 1888), (253, 1892), (254, 1896), (255, 1900), (256, 103), (257, 104), (258, 1912), (259, 1916), (260, 1920), (261, 1924), (262, 1928), (263, 1932), (264, 1936), (265, 1941), (267, 1948), (268, 105), (269, 106), (270, 1964), (271, 1968), (272, 107), (273, 604), (274, 608), (275, 612), (276, 618), (277, 622), (278, 700)]
def fEO (j : Nat) : Cond := .selects (yy j).cls (yy j) (yy j)
def IO0 : List (Nat × Nat) := [(0, 118), (1, 112), (2, 113), (3, 119), (4, 115), (5, 114), (6, 117), (7, 111), (8, 120), (9, 116), (10, 110), (11, 109), (12, 123), (13, 108), (14, 124), (15, 125), (16, 122), (17, 130), (18, 126), (19, 128)]
def fIO0 (o : Nat) : Cond := .initialized (on o)
def TO : List (Nat × Nat) := [(0, 383), (1, 193), (2, 281), (3, 420), (4, 318), (5, 302), (6, 373), (7, 187), (8, 452), (9, 331), (10, 144), (11, 136), (12, 1393)]
def fTO (k : Nat) : Cond := .instantiable (on k) (ftT k).length
def LY : List ((Nat × Nat) × Nat) := [((0, 0), 392), ((0, 1), 394), ((0, 2), 396), ((1, 0), 201), ((1, 1), 203), ((1, 2), 205), ((2, 0), 292), ((2, 1), 294), ((2, 2), 296), ((2, 3), 298), ((3, 0), 436), ((3, 1), 438), ((3, 2), 440), ((3, 3), 442), ((3, 4), 444), ((3, 5), 446), ((3, 6), 448), ((4, 0), 327), ((5, 0), 312), ((5, 1), 314), ((6, 0), 406), ((6, 1), 408), ((6, 2), 410), ((6, 3), 412), ((6, 4), 414), ((7, 0), 251), ((7, 1), 253), ((7, 2), 255), ((7, 3), 257), ((7, 4), 259), ((7, 5), 261), ((7, 6), 263), ((7, 7), 265), ((7, 8), 267), ((7, 9), 269), ((7, 10), 271), ((7, 11), 273), ((7, 12), 275), ((7, 13), 277), ((8, 0), 469), ((8, 1), 471), ((8, 2), 473), ((8, 3), 475), ((8, 4), 477), ((8, 5), 479), ((8, 6), 481), ((8, 7), 483), ((8, 8), 485), ((9, 0), 353), ((9, 1), 355), ((9, 2), 357), ((9, 3), 359), ((9, 4), 361), ((9, 5), 363), ((9, 6), 365), ((9, 7), 367), ((9, 8), 369), ((10, 0), 166), ((10, 1), 168), ((10, 2), 170), ((10, 3), 172), ((10, 4), 174), ((10, 5), 176), ((10, 6), 178), ((10, 7), 180), ((10, 8), 182), ((11, 0), 524), ((11, 1), 526), ((11, 2), 528), ((11, 3), 530), ((11, 4), 532), ((11, 5), 534), ((11, 6), 536), ((11, 7), 538), ((11, 8), 540), ((11, 9), 542), ((11, 10), 544), ((11, 11), 546), ((11, 12), 548), ((11, 13), 550), ((12, 0), 1492), ((12, 1), 1494), ((12, 2), 1496), ((12, 3), 1498), ((12, 4), 1500), ((12, 5), 1502), ((12, 6), 1504), ((12, 7), 1506), ((12, 8), 1508), ((12, 9), 1510), ((12, 10), 1512), ((12, 11), 1514), ((12, 12), 1516), ((12, 13), 1518), ((12, 14), 1520), ((12, 15), 1522), ((12, 16), 1524), ((12, 17), 1526), ((12, 18), 1528), ((12, 19), 1530), ((12, 20), 1532), ((12, 21), 1534), ((12, 22), 1536), ((12, 23), 1538), ((12, 24), 1540), ((12, 25), 1542), ((12, 26), 1544), ((12, 27), 1546), ((12, 28), 1548), ((12, 29), 1550), ((12, 30), 1552), ((12, 31), 1554), ((12, 32), 1556), ((12, 33), 1558), ((12, 34), 1560)]
def fLY (q : Nat × Nat) : Cond := u_lay (on q.1) (cT q.1) q.2
def AR : List (FieldType × Nat) := [(.char, 185), (.int, 208), (.long, 209), (.boolean, 399)]
def fAR (t : FieldType) : Cond := .arrayClass t
def AN : List (Cond × Nat) := [(.native arraycopyName, 502), (.static arraycopyName, 501), (.initialized "java/lang/System", 121), (.instanceMethod objectInit, 141)]
def fAN (c : Cond) : Cond := c
theorem LY_ok : ∀ q ∈ LY, fLY q.1 ∈ gT := gT_in fLY LY (by decide +kernel)
theorem AR_ok : ∀ q ∈ AR, fAR q.1 ∈ gT := gT_in fAR AR (by decide +kernel)
theorem AN_ok : ∀ q ∈ AN, fAN q.1 ∈ gT := gT_in fAN AN (by decide +kernel)
theorem SO_ok : ∀ q ∈ SO, fSO q.1 ∈ gT := gT_in fSO SO (by decide +kernel)
theorem NO_ok : ∀ q ∈ NO, fNO q.1 ∈ gT := gT_in fNO NO (by decide +kernel)
theorem EO_ok : ∀ q ∈ EO, fEO q.1 ∈ gT := gT_in fEO EO (by decide +kernel)
theorem IO0_ok : ∀ q ∈ IO0, fIO0 q.1 ∈ gT := gT_in fIO0 IO0 (by decide +kernel)
theorem TO_ok : ∀ q ∈ TO, fTO q.1 ∈ gT := gT_in fTO TO (by decide +kernel)
