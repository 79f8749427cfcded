/-! a throw of NoSuchElementException with a text: its words, its law; a throw is caught by the one row of the law's own table -/
def nsE : String := "java/util/NoSuchElementException"
def rtE : String := "java/lang/RuntimeException"
def exE : String := "java/lang/Exception"
def nxT (own : String) (ic : Nat) : List Cond := [.methodLink own ic (Bundle.initS nsE), .instantiable nsE 6, .castable nsE nsE, .selects nsE Bundle.tFill0 Bundle.tFill0, .selects nsE Bundle.tFill Bundle.tFill, .lays nsE Bundle.tN "cause" "Ljava/lang/Throwable;", .lays nsE Bundle.tN "stackTrace" Bundle.steD, .lays nsE Bundle.tN "suppressedExceptions" Bundle.listD, .lays nsE Bundle.tN "detailMessage" "Ljava/lang/String;", .isRef (.static Bundle.tN "UNASSIGNED_STACK" Bundle.steD), .isRef (.static Bundle.tN "SUPPRESSED_SENTINEL" Bundle.listD), .fieldLink Bundle.tN 198 Bundle.tN "backtrace" "Ljava/lang/Object;", .lays Bundle.tN Bundle.tN "backtrace" "Ljava/lang/Object;", .lays nsE Bundle.tN "backtrace" "Ljava/lang/Object;"]
def nxA (own : String) (ic : Nat) : List Cond := Bundle.throwableAtoms ++ (Bundle.throwableSAtoms ++ (Bundle.passSAtoms nsE rtE 13 prog_31_method_4_code ++ (Bundle.chainSAtoms rtE [exE] ++ nxT own ic)))
theorem nx_all {args : Array Value} {s : State} (hg : ∀ w ∈ gT, w.before args s = true) (h1 : (Cond.castable nsE nsE).before args s = true) (h2 : (Cond.declares (Bundle.initS rtE)).before args s = true) (h3 : (Cond.declares (Bundle.initS exE)).before args s = true) (h4 : (Cond.declares (Bundle.initS Bundle.tN)).before args s = true) (v1 : (Cond.isRef (.static Bundle.tN "UNASSIGNED_STACK" Bundle.steD)).before args s = true) (v2 : (Cond.isRef (.static Bundle.tN "SUPPRESSED_SENTINEL" Bundle.listD)).before args s = true) (l1 : (Cond.laysStatic Bundle.tN "UNASSIGNED_STACK" Bundle.steD).before args s = true) (l2 : (Cond.laysStatic Bundle.tN "SUPPRESSED_SENTINEL" Bundle.listD).before args s = true) : ∀ w ∈ nxA "ShoeOrchard" 312, w.before args s = true :=
  List.forall_mem_append.mpr ⟨(List.forall_mem_cons.mpr ⟨hg _ (gt_1 (List.mem_of_getElem? (i := 23) rfl) rfl), (List.forall_mem_cons.mpr ⟨hg _ (gt_6 (List.mem_of_getElem? (i := 27) rfl) rfl), (List.forall_mem_cons.mpr ⟨hg _ (gt_6 (List.mem_of_getElem? (i := 36) rfl) rfl), (List.forall_mem_cons.mpr ⟨hg _ (gt_6 (List.mem_of_getElem? (i := 38) rfl) rfl), (List.forall_mem_cons.mpr ⟨hg _ (gt_6 (List.mem_of_getElem? (i := 41) rfl) rfl), (List.forall_mem_cons.mpr ⟨hg _ (gt_6 (List.mem_of_getElem? (i := 43) rfl) rfl), (List.forall_mem_cons.mpr ⟨hg _ (gt_6 (List.mem_of_getElem? (i := 28) rfl) rfl), (List.forall_mem_cons.mpr ⟨hg _ (gt_6 (List.mem_of_getElem? (i := 29) rfl) rfl), (List.forall_mem_cons.mpr ⟨hg _ (gt_1 (List.mem_of_getElem? (i := 33) rfl) rfl), (List.forall_mem_cons.mpr ⟨hg _ (gt_1 (List.mem_of_getElem? (i := 34) rfl) rfl), (List.forall_mem_cons.mpr ⟨hg _ (gt_6 (List.mem_of_getElem? (i := 30) rfl) rfl), (List.forall_mem_cons.mpr ⟨hg _ (gt_6 (List.mem_of_getElem? (i := 35) rfl) rfl), (List.forall_mem_cons.mpr ⟨hg _ (gt_6 (List.mem_of_getElem? (i := 39) rfl) rfl), (List.forall_mem_cons.mpr ⟨hg _ (gt_6 (List.mem_of_getElem? (i := 59) rfl) rfl), (List.forall_mem_cons.mpr ⟨hg _ (gt_6 (List.mem_of_getElem? (i := 17) rfl) rfl), (List.forall_mem_cons.mpr ⟨hg _ (gt_6 (List.mem_of_getElem? (i := 60) rfl) rfl), (List.forall_mem_cons.mpr ⟨hg _ (gt_6 (List.mem_of_getElem? (i := 19) rfl) rfl), (List.forall_mem_cons.mpr ⟨hg _ (gt_6 (List.mem_of_getElem? (i := 61) rfl) rfl), (List.forall_mem_cons.mpr ⟨hg _ (gt_6 (List.mem_of_getElem? (i := 21) rfl) rfl), (List.forall_mem_cons.mpr ⟨hg _ (gt_6 (List.mem_of_getElem? (i := 31) rfl) rfl), (List.forall_mem_cons.mpr ⟨l1, (List.forall_mem_cons.mpr ⟨hg _ (gt_6 (List.mem_of_getElem? (i := 33) rfl) rfl), (List.forall_mem_cons.mpr ⟨l2, (List.forall_mem_cons.mpr ⟨hg _ (gt_6 (List.mem_of_getElem? (i := 23) rfl) rfl), (fun _ h => absurd h List.not_mem_nil)⟩)⟩)⟩)⟩)⟩)⟩)⟩)⟩)⟩)⟩)⟩)⟩)⟩)⟩)⟩)⟩)⟩)⟩)⟩)⟩)⟩)⟩)⟩)⟩), List.forall_mem_append.mpr ⟨(List.forall_mem_cons.mpr ⟨hg _ (gt_6 (List.mem_of_getElem? (i := 55) rfl) rfl), (List.forall_mem_cons.mpr ⟨hg _ (gt_6 (List.mem_of_getElem? (i := 56) rfl) rfl), (List.forall_mem_cons.mpr ⟨hg _ (gt_6 (List.mem_of_getElem? (i := 58) rfl) rfl), (List.forall_mem_cons.mpr ⟨hg _ (gt_6 (List.mem_of_getElem? (i := 23) rfl) rfl), (fun _ h => absurd h List.not_mem_nil)⟩)⟩)⟩)⟩), List.forall_mem_append.mpr ⟨(List.forall_mem_cons.mpr ⟨hg _ (gt_6 (List.mem_of_getElem? (i := 46) rfl) rfl), (List.forall_mem_cons.mpr ⟨hg _ (gt_6 (List.mem_of_getElem? (i := 47) rfl) rfl), (List.forall_mem_cons.mpr ⟨hg _ (gt_6 (List.mem_of_getElem? (i := 48) rfl) rfl), (List.forall_mem_cons.mpr ⟨hg _ (gt_6 (List.mem_of_getElem? (i := 49) rfl) rfl), (List.forall_mem_cons.mpr ⟨h2, (fun _ h => absurd h List.not_mem_nil)⟩)⟩)⟩)⟩)⟩), List.forall_mem_append.mpr ⟨List.forall_mem_append.mpr ⟨(List.forall_mem_cons.mpr ⟨hg _ (gt_6 (List.mem_of_getElem? (i := 49) rfl) rfl), (List.forall_mem_cons.mpr ⟨hg _ (gt_6 (List.mem_of_getElem? (i := 50) rfl) rfl), (List.forall_mem_cons.mpr ⟨hg _ (gt_6 (List.mem_of_getElem? (i := 51) rfl) rfl), (List.forall_mem_cons.mpr ⟨hg _ (gt_6 (List.mem_of_getElem? (i := 52) rfl) rfl), (List.forall_mem_cons.mpr ⟨h3, (fun _ h => absurd h List.not_mem_nil)⟩)⟩)⟩)⟩)⟩), (List.forall_mem_cons.mpr ⟨hg _ (gt_6 (List.mem_of_getElem? (i := 52) rfl) rfl), (List.forall_mem_cons.mpr ⟨hg _ (gt_6 (List.mem_of_getElem? (i := 53) rfl) rfl), (List.forall_mem_cons.mpr ⟨hg _ (gt_6 (List.mem_of_getElem? (i := 54) rfl) rfl), (List.forall_mem_cons.mpr ⟨hg _ (gt_6 (List.mem_of_getElem? (i := 55) rfl) rfl), (List.forall_mem_cons.mpr ⟨h4, (fun _ h => absurd h List.not_mem_nil)⟩)⟩)⟩)⟩)⟩)⟩, (List.forall_mem_cons.mpr ⟨hg _ (gt_6 (List.mem_of_getElem? (i := 45) rfl) rfl), (List.forall_mem_cons.mpr ⟨hg _ (gt_6 (List.mem_of_getElem? (i := 6) rfl) rfl), (List.forall_mem_cons.mpr ⟨h1, (List.forall_mem_cons.mpr ⟨hg _ (gt_6 (List.mem_of_getElem? (i := 14) rfl) rfl), (List.forall_mem_cons.mpr ⟨hg _ (gt_6 (List.mem_of_getElem? (i := 15) rfl) rfl), (List.forall_mem_cons.mpr ⟨hg _ (gt_6 (List.mem_of_getElem? (i := 16) rfl) rfl), (List.forall_mem_cons.mpr ⟨hg _ (gt_6 (List.mem_of_getElem? (i := 18) rfl) rfl), (List.forall_mem_cons.mpr ⟨hg _ (gt_6 (List.mem_of_getElem? (i := 20) rfl) rfl), (List.forall_mem_cons.mpr ⟨hg _ (gt_6 (List.mem_of_getElem? (i := 22) rfl) rfl), (List.forall_mem_cons.mpr ⟨v1, (List.forall_mem_cons.mpr ⟨v2, (List.forall_mem_cons.mpr ⟨hg _ (gt_6 (List.mem_of_getElem? (i := 26) rfl) rfl), (List.forall_mem_cons.mpr ⟨hg _ (gt_6 (List.mem_of_getElem? (i := 25) rfl) rfl), (List.forall_mem_cons.mpr ⟨hg _ (gt_6 (List.mem_of_getElem? (i := 24) rfl) rfl), (fun _ h => absurd h List.not_mem_nil)⟩)⟩)⟩)⟩)⟩)⟩)⟩)⟩)⟩)⟩)⟩)⟩)⟩)⟩)⟩⟩⟩⟩
theorem nb_0 : decode prog_31_method_4_code 0 = .ok (.aload_n 0, 1) := by decide +kernel
theorem nb_1 : decode prog_31_method_4_code 1 = .ok (.aload_n 1, 1) := by decide +kernel
theorem nb_2 : decode prog_31_method_4_code 2 = .ok (.invokespecial 13, 3) := by decide +kernel
theorem nb_5 : decode prog_31_method_4_code 5 = .ok (.return_, 1) := by decide +kernel
section
variable {p : Program} {l : Launch} {e : Env} {R : Room} {s : State} {m : MethodId} {args : Array Value} {below : List Frame} {meth : Method} {c : Code} {V : State} {locs : List Loc} {cells slots : Nat}
set_option maxHeartbeats 1000000 in
/-- the constructor's call and athrow, behind new, dup and the text -/
theorem ctorN (X : Stand p l e R s m args below meth c V locs cells slots) (hexec : p.tables.exec = Jvm.exec) (htr : e.platform.stackTraces = false) {own : String} {ic : Nat}
    (hown : s.vm.findClass own = some m.cls) (h : ∀ w ∈ nxA own ic, w.before args s = true)
    (hlocs : ∀ x ∈ locs, ∀ cell, s.heap[x.base]? = some cell → cell.vm.isStatics = false)
    {a : Addr} {cX : ClassId} {kX : Class} (hfoundX : s.vm.findClass nsE = some cX) (hkX : s.vm.classes[cX]? = some kX) (hcell : V.heap[a]? = some (freshCell cX kX)) (hnew : s.heap.size ≤ a)
    {msg : Value} (hmsg : msg.isRef = true)
    {g : JFrame} (hg : g.method = m) (hsize : g.locals.size = c.maxLocals) (hlocked : g.locked = none) (hentered : g.entered = []) {rest : List Value} (hstack : g.stack = msg :: .ref a :: .ref a :: rest)
    (hd6 : decode c.code g.pc = .ok (.invokespecial ic, 3)) (hd9 : decode c.code (g.pc + 3) = .ok (.athrow, 1)) (hout : ∀ x ∈ c.exceptionTable.toList, covers x (g.pc + 3) = false)
    (hRframes : 5 < R.frames) (hRlocals : 2 * g.monitorRoom + ((Value.ref a :: rest).map fun v => v.category).sum + 81 ≤ R.locals) (hlocks : meth.locks = false) :
    ∃ U : State, Steps p.tables e below (V.setTop g) U ∧ U.status = .running ∧ Ended U below (.threw a) ∧ s.WarmedH U.vm ∧ s.sameButNew ({ U with vm := s.vm } : State) locs cells slots ∧
      ∃ ce, U.heap[a]? = some ce ∧ ce.vm = .none ∧ s.vm.findClass nsE = some ce.cls := by
  have howns : e.platform.frameOwnsMonitors = true := by rw [X.admits.platform]
  have hfin : e.platform.finalization = false := by rw [X.admits.platform]
  have hpl : e.platform.magicAccessors = ({} : Platform).magicAccessors := by rw [X.admits.platform]
  have hT : ∀ w ∈ nxT own ic, w.holds args s none s [] = true := fun w hw => h w (List.mem_append_right _ (List.mem_append_right _ (List.mem_append_right _ (List.mem_append_right _ hw))))
  have hP : ∀ w ∈ Bundle.passSAtoms nsE rtE 13 prog_31_method_4_code, w.before args s = true := fun w hw => h w (List.mem_append_right _ (List.mem_append_right _ (List.mem_append_left _ hw)))
  obtain ⟨T, Z0, L, -, Y⟩ := ThrowableC.of_atoms (args := args) howns hfin hpl (fun w hw => h w (List.mem_append_left _ hw))
  obtain ⟨Z, M, LZ, LM, hnZ⟩ := Init0T.ofS_atoms (args := args) hpl L Y (fun w hw => h w (List.mem_append_right _ (List.mem_append_left _ hw)))
  obtain ⟨P1, L1, hP1m, hP1s⟩ := PassC.ofS_atoms (args := args) (s := s) hpl (X := nsE) (Y := rtE) (by decide) (by decide) nb_0 nb_1 nb_2 nb_5 hP
  obtain ⟨P2, Ps, hlen, L2, hL, hP2m, hsup, hpass⟩ := Bundle.chainS (args := args) hpl hnZ [exE] rtE (by decide) (by decide) (fun w hw => h w (List.mem_append_right _ (List.mem_append_right _ (List.mem_append_right _ (List.mem_append_left _ hw)))))
  have hlink1 : P1.sup = P2.m := Option.some.inj (hP1s.symm.trans hP2m)
  have hfound : s.vm.findClass nsE = some P1.m.cls := findClass_of_methodNamed hP1m
  cases Option.some.inj (hfoundX.symm.trans hfound)
  obtain ⟨c1, kX', hc1, hk, hord, -, -, hn6⟩ := Cond.instantiable_spec (hT (.instantiable nsE 6) (by simp [nxT]))
  cases Option.some.inj (hc1.symm.trans hfound)
  cases Option.some.inj (hkX.symm.trans hk)
  have hsel0 : selectMethod e.platform s.vm P1.m.cls T.fill0 = .method T.fill0 := by
    obtain ⟨c2, r2, m2, q1, q2, q3, q4, -⟩ := Cond.selects_spec (hT (.selects nsE Bundle.tFill0 Bundle.tFill0) (by simp [nxT]))
    cases Option.some.inj (q1.symm.trans hfound)
    cases Option.some.inj (q2.symm.trans (State.methodFound?_of_named Y.fill0 (by decide)))
    cases Option.some.inj (q3.symm.trans Y.fill0)
    rw [Launch.admits_selectMethod X.admits]; exact q4
  have hselF : selectMethod e.platform s.vm P1.m.cls T.fill = .method T.fill := by
    obtain ⟨c2, r2, m2, q1, q2, q3, q4, -⟩ := Cond.selects_spec (hT (.selects nsE Bundle.tFill Bundle.tFill) (by simp [nxT]))
    cases Option.some.inj (q1.symm.trans hfound)
    cases Option.some.inj (q2.symm.trans (State.methodFound?_of_named Y.fill (by decide)))
    cases Option.some.inj (q3.symm.trans Y.fill)
    rw [Launch.admits_selectMethod X.admits]; exact q4
  obtain ⟨cellS0, hcS0, hiss⟩ := Y.statics
  obtain ⟨u0, hu0⟩ := Cond.staticRefV Y.unassigned L.unassignedStatic L.statics hcS0 hiss (hT (.isRef (.static Bundle.tN "UNASSIGNED_STACK" Bundle.steD)) (by simp [nxT]))
  obtain ⟨sen, hsen⟩ := Cond.staticRefV Y.sentinel L.sentinelStatic L.statics hcS0 hiss (hT (.isRef (.static Bundle.tN "SUPPRESSED_SENTINEL" Bundle.listD)) (by simp [nxT]))
  obtain ⟨ci198, i198, fB, hk198, hg198, ha198, hsB, -, hnB, htB, hffB⟩ := Cond.ownField (t := .object "java/lang/Object") Y.found L.cls (by decide +kernel) (hT (.fieldLink Bundle.tN 198 Bundle.tN "backtrace" "Ljava/lang/Object;") (by simp [nxT])) (hT (.lays Bundle.tN Bundle.tN "backtrace" "Ljava/lang/Object;") (by simp [nxT])) e.platform hpl
  obtain ⟨cellS, hcellS, heS, -, hkeep⟩ := X.same.2.2.2.2.2 T.aS cellS0 hcS0
  have hcellS : V.heap[T.aS]? = some cellS := hcellS
  have hout' : ∀ i, (⟨T.aS, i⟩ : Loc) ∉ locs := fun i hmem => by
    have := hlocs _ hmem cellS0 hcS0
    rw [hiss] at this; cases this
  have hknownS : cellS.vm ≠ .unknown := by
    rw [heS]; intro hu
    rw [show cellS0.vm = .unknown from hu] at hiss
    cases hiss
  have hneS : T.aS ≠ a := Nat.ne_of_lt (Nat.lt_of_lt_of_le (Array.getElem?_eq_some_iff.mp hcS0).1 hnew)
  obtain ⟨iM, hffM⟩ := Y.msg
  obtain ⟨tyC, dC, hdC, hdnC⟩ := Cond.laysAt hfound hk Y.cause (hT (.lays nsE Bundle.tN "cause" "Ljava/lang/Throwable;") (by simp [nxT]))
  obtain ⟨tyS, dS, hdS, hdnS⟩ := Cond.laysAt hfound hk Y.stack (hT (.lays nsE Bundle.tN "stackTrace" Bundle.steD) (by simp [nxT]))
  obtain ⟨tyP, dP, hdP, hdnP⟩ := Cond.laysAt hfound hk Y.supp (hT (.lays nsE Bundle.tN "suppressedExceptions" Bundle.listD) (by simp [nxT]))
  obtain ⟨tyM, dM, hdM, hdnM⟩ := Cond.laysAt hfound hk hffM (hT (.lays nsE Bundle.tN "detailMessage" "Ljava/lang/String;") (by simp [nxT]))
  obtain ⟨tyB, dB, hdB, hdnB⟩ := Cond.laysAt hfound hk hffB (hT (.lays nsE Bundle.tN "backtrace" "Ljava/lang/Object;") (by simp [nxT]))
  have bC := Cond.laysApart hdB hdC hdnB hdnC (by rw [hnB, Y.causeName]; decide)
  have bS := Cond.laysApart hdB hdS hdnB hdnS (by rw [hnB, Y.stackName]; decide)
  have bP := Cond.laysApart hdB hdP hdnB hdnP (by rw [hnB, Y.suppName]; decide)
  have hskip : SkipFacts T e.platform s (fun u => u) u0 ((preparedCellV T.toThrowableT (freshCell P1.m.cls kX) a u0 sen).withEntry V.cur) :=
    ⟨{ ci198 := ci198, i198 := i198, fBack := fB }, ⟨hk198, hg198, ha198, hsB⟩, by
      have := fresh_default (c := P1.m.cls) tyB
      rw [htB] at this
      simpa [preparedCellV, Cell.setSlot, Cell.withEntry, Array.getElem?_setIfInBounds, bC, bS, bP, bC.symm, bS.symm, bP.symm, defaultValue] using this, fun _ _ => rfl⟩
  obtain ⟨tm, methC, cdC, kC, vm₁, hnC, -, -, -, -, -, -, -, hW₁, st1⟩ := Steps.initColdS (tb := p.tables) (e := e) (below := below) (s := s) (U := V) X.here hexec X.warmed hpl hown (t := Bundle.initS nsE) rfl rfl (by decide)
    (hT (.methodLink own ic (Bundle.initS nsE)) (by simp [nxT])) (hP (.instanceMethod (Bundle.initS nsE)) (by simp [Bundle.passSAtoms])) (bytes := prog_31_method_4_code) (maxL := 2) (hP (.code (Bundle.initS nsE) prog_31_method_4_code 2 none) (by simp [Bundle.passSAtoms]))
    (f := g) hg (a := a) (msg := msg) (rest := .ref a :: rest) hstack hd6
  cases Option.some.inj (hnC.symm.trans hP1m)
  have X₁ := X.noted hW₁
  obtain ⟨vm₂, X₂, st2⟩ := X₁.ctorMessageOffV hexec (g := { g with stack := .ref a :: rest }) hg hsize T L Z LZ M LM (P1 :: P2 :: Ps)
    (fun P hP => by rcases List.mem_cons.mp hP with rfl | hP; exact L1; rcases List.mem_cons.mp hP with rfl | hP; exact L2; exact hL P hP) ⟨hlink1, hsup, hpass⟩ (u0 := u0) (sen := sen) (self := a) hmsg (cell := freshCell P1.m.cls kX) (cellS := cellS)
    hcell (fun _ => by simp) (by simp) rfl rfl hsel0 hselF hcellS hneS hknownS (by rw [hkeep _ (hout' _)]; exact hu0) (by rw [hkeep _ (hout' _)]; exact hsen)
    (Takes.of_laid hk hord tyC (by rw [Y.causeType]; rfl)) (Takes.of_laid hk hord tyS (by rw [Y.stackType]; exact fits_refV_array _ u0)) (Takes.of_laid hk hord tyP (by rw [Y.suppType]; exact fits_refV_object _ sen))
    (Takes.of_laid hk hord tyM (by rw [Y.msgType]; exact fits_refV_object _ ⟨msg, hmsg⟩)) Y.objLocals hskip htr [] hd6
    (by simp only [List.length_cons, hlen, List.length_nil]; omega) (by simp only [List.length_cons, hlen, List.length_nil]; exact hRlocals)
  obtain ⟨hwalk, hrun, hended, hWU, hsame⟩ := X₂.athrowLeaves hexec (g := { g with stack := .ref a :: rest, pc := g.pc + 3 }) hg hlocked hentered hout (a := a) (rest := rest) rfl hd9
  have hlt : a < ((V.setVm vm₁).setVm vm₂).heap.size := (Array.getElem?_eq_some_iff.mp hcell).1
  have hU := heapAt_setCell_self (s := (V.setVm vm₁).setVm vm₂) (plainBareV T.toThrowableT (freshCell P1.m.cls kX) a u0 sen msg) hlt
  refine ⟨_, st1 _ (fun acts => ?_), hrun, hended, hWU, hsame.weaken (fun y hy hlt' => ?_) (Nat.le_refl _) (Nat.le_refl _), _, hU, rfl, hfound⟩
  · rw [doInvoke_state]
    exact st2 _ hwalk
  · rcases List.mem_append.mp hy with h1 | h1
    · exact h1
    · exfalso
      have hb : y.base = a := by
        simp only [List.mem_cons, List.not_mem_nil, or_false] at h1
        rcases h1 with rfl | rfl | rfl | rfl | rfl <;> rfl
      rw [hb] at hlt'
      exact Nat.not_lt.mpr hnew hlt'
end
section
variable {p : Program} {l : Launch} {e : Env} {R : Room} {s : State} {m : MethodId} {args : Array Value} {below : List Frame} {meth : Method} {c : Code} {H : Heap} {locs : List Loc} {cells slots : Nat} {Q : State → Prop} {pc : Nat} {ls : Array Slot} {rest : List Value}
/-- the search over a table of one row that links to a class which takes the thrown one -/
theorem cz_find {T : State} {f : JFrame} {a : Addr} {x : ExceptionTableEntry} {k : ClassId} {ce : Cell} (hm : T.vm.method? f.method = some meth) (hc : meth.code = some c) (ht : c.exceptionTable.toList = [x]) (hx : covers x f.pc = true) (h0 : x.catchType ≠ 0)
    (hl : T.vm.ClassLinks e.platform f.method.cls x.catchType k) (hcell : T.heap[a]? = some ce) (hobj : ∀ k, ce.vm ≠ .statics k) (hk : ∃ k, T.vm.classes[ce.cls]? = some k) (hk2 : ∃ k9, T.vm.classes[k]? = some k9) (hfit : T.vm.assignable ce.cls k = true) :
    ∀ (Q : Handler → Pre) (E : CtlPost) (d : Bool) (acts : List Action), wp (findHandler f a) Q E e d acts T ↔ Q (.found x.handlerPc) d acts (T.setVm (T.vm.noted f.method.cls x.catchType (.cls k))) := by
  intro Q E d acts
  rw [Jvm.W.findHandler_eq hm hc, ht]
  simp only [covers] at hx
  obtain ⟨h1, h2⟩ := (resolveClass_links e.toSetting hl).op (op := VmOp.resolveClass f.method.cls x.catchType) rfl
  have al : T.vm.Alike (T.vm.noted f.method.cls x.catchType (.cls k)) := (Vm.Alike.refl T.vm).noted _ _ _
  obtain ⟨k1, hk1⟩ := hk
  obtain ⟨k2, hk2⟩ := hk2
  obtain ⟨k3, hk3, -⟩ := al.2.2 _ _ hk1
  obtain ⟨k4, hk4, -⟩ := al.2.2 _ _ hk2
  have fit' : (T.vm.noted f.method.cls x.catchType (.cls k)).assignable ce.cls k = true := by rw [al.assignable]; exact hfit
  simp [findHandler.go, hx, h0, h1, h2, hcell, hobj, hk3, hk4, fit', VmOp.dirties, VmOp.acts]
end
