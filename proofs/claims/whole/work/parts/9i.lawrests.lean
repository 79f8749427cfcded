/-! the law's own rests, over the machine -/
def yLr : MethodName := ⟨"ShoeOrchardLaw", "rests", "(LShoeOrchard;IIII[J)I"⟩
def hhL : List (Nat × Nat × Nat × Nat) := [(0, 14, 17, 13)]
def wX : List Cond := Cond.codeWith yLr method_3_code 7 (some .int) hhL :: gT
def rmY (mc ms : Nat) : Room := { frames := 10, cells := mc, slots := ms, locals := 700 }
theorem cwL_in : Cond.codeWith yLr method_3_code 7 (some .int) hhL ∈ gT := gt_5 (List.mem_of_getElem? (i := 236) rfl) rfl
theorem wX_good : GoodIn gT wX := by
  intro w hw
  rcases List.mem_cons.mp hw with rfl | hw
  · exact gT_good _ cwL_in
  · exact gT_good w hw
def B0 : List Instr := [.aload 5, .iconst 0, .aload_n 0, .iload_n 1, .iload_n 2, .iload_n 3, .iload 4]
def B1 : List (Nat × List Instr) := [(12, [.i2l, .lastore, .goto 7]), (21, [.iconst 0, .ireturn])]
theorem cB0 : ckB 13 false method_3_code B0 0 = true ∧ jmpB B0 0 = true := ⟨by decide +kernel, by decide +kernel⟩
theorem cB1 : ∀ q ∈ B1, ckB 13 false method_3_code q.2 q.1 = true ∧ jmpB q.2 q.1 = true := by decide +kernel
theorem dL_9 : decode method_3_code 9 = .ok (.invokevirtual 7, 3) := by decide +kernel
theorem dL_17 : decode method_3_code 17 = .ok (.astore 6, 2) := by decide +kernel
theorem dL_19 : decode method_3_code 19 = .ok (.iconst 1, 1) := by decide +kernel
theorem dL_20 : decode method_3_code 20 = .ok (.ireturn, 1) := by decide +kernel
theorem Met_ofH {l : Launch} {y : MethodName} {ws ws' : List Cond} {rm : Room} {Pc : Array Value → State → Prop} {Qc : Array Value → State → Outcome → State → Prop} {mc ms : Nat} {free : Addr → Prop} {cc : ByteArray} {maxL : Nat} {ret : Option FieldType} {hh : List (Nat × Nat × Nat × Nat)}
    (hy : plainName y.cls = true) (hw : ws = Cond.codeWith y cc maxL ret hh :: ws')
    (body : ∀ p e s m args below meth c s₁, BodyLoose p l y (headSpec ws rm) cc maxL ret e s m args below meth c s₁ → c.maxLocals = maxL → Pc args s →
      W p l e (headSpec ws rm).room s m args below meth c s.heap [] 0 0 (MQ below Qc args s mc ms free) (entryFrame m args maxL)) : Met l y ws rm Pc Qc mc ms free := by
  refine MetFree.of_bodyS (code := cc) (maxLocals := maxL) (ret := ret) hy ?_ ?_
  · intro args s m h hn
    obtain ⟨m9, meth, c, hn9, h1, h2, h3, h4, -, h5, h6, -⟩ := Cond.codeWith_spec (atoms_spec (ws := ws) h _ (by rw [hw]; exact List.mem_cons_self))
    cases hn.symm.trans hn9
    exact ⟨meth, c, h1, h2, h3, h4, h5, h6⟩
  · intro p e s m args below meth c s₁ B hml hP _
    have hh0 : s₁.heap = s.heap := by rw [B.state]; rfl
    obtain ⟨t, a1, o, b1, b2, b3⟩ := body p e s m args below meth c s₁ B hml hP s₁ hh0 (Stand.of_body B)
    exact ⟨t, o, a1, b1, b2, b3⟩
section
variable {p : Program} {l : Launch} {e : Env} {R : Room} {s : State} {m : MethodId} {args : Array Value} {below : List Frame} {meth : Method} {c : Code} {Qf : State → Prop} {D : va_G} {cy : Nat → ClassId} {b : Nat} {xo : Nat → Option Nat} {L : Nat} {xs : Nat → Int32} {M : mm_M} {H : Heap} {locs : List Loc} {rl : Array Slot} {mc ms cells slots : Nat} {p1 p2 p3 p4 : Int32}
/-- the call of rests of the class, in the law's own -/
theorem call156 (hl : l.stackTraces = false) (hC : CX p s m args c method_3_code 13 7 D cy b xo L xs) (hT : TY b s s.heap) (hW : WR D cy b M H) (hS : va_S (AA b) s.heap H locs) (hrl : rl.size = 7) (hk1 : mK M 1 = 11) (hk : mK M 55 = 18) (hn : mN M 55 = 16) (hm : restF p1 p2 p3 p4 = none → 1 ≤ mc ∧ 6 ≤ ms) (hR1 : 9 ≤ R.frames) (hR2 : 630 ≤ R.locals) (hc1 : cells + mc ≤ R.cells) (hc2 : slots + ms ≤ R.slots) :
    vx_Run p l e R s m args below meth c H locs cells slots mc ms (F0 m 9 rl ([.int p4, .int p3, .int p2, .int p1, .ref 1, .int 0, .ref 269].map (cv b xo))) ([.int 0, .ref 269].map (cv b xo)) (QcX D cy b (restF p1 p2 p3 p4) M (Value.ref (b + 1) :: [Value.int p1, .int p2, .int p3, .int p4]).toArray) (XCX D cy b (restF p1 p2 p3 p4) M) (AA b) := by
  have hts := hC.2.2.2.2.1
  have hK := hC.2.2.2.2.2.1
  obtain ⟨hra, cellB, q1, q2, q3, -⟩ := hW.ob hk1 (by decide)
  have hM := vm156 (l := l) (D := D) (cy := cy) (b := b) (xo := xo) (L := L) (xs := xs) (M := M) (a := 1) hl hk hn hm
  have ea : (([.ref 1, .int p1, .int p2, .int p3, .int p4] : List Value).map (cv b xo)) = .ref (b + 1) :: [Value.int p1, .int p2, .int p3, .int p4] := by rw [List.map_cons, cv_r (by decide)]; rfl
  have hpre : ∀ U : State, U.heap = H → s.WarmedH U.vm → PcX D cy b xo L xs [.ref 1, .int p1, .int p2, .int p3, .int p4] M (.ref (b + 1) :: [Value.int p1, .int p2, .int p3, .int p4]).toArray U := fun U hU hw => by
    have h1 := PcJ_at (a := [.ref 1, .int p1, .int p2, .int p3, .int p4]) hC hW hS U hU hw
    rw [ea] at h1
    exact ⟨h1, by rw [hU]; exact hT.to hw hS.2.1⟩
  have hini : (Cond.initialized (yy 156).cls).before args s = true := hts _ (gt_1 (List.mem_of_getElem? (i := 1) rfl) rfl)
  refine vx_runV (C := (yy 156).cls) (b := b + 1) (As := [Value.int p1, .int p2, .int p3, .int p4]) (n := 4) (bytes := bb 156) (maxL := ml 156) (ret := rr 156) (own := on 13) (index := 7) (y := yy 156) ⟨hC.1, hC.2.1, hC.2.2.1, hC.2.2.2.1, hts⟩ hM ⟨callB_of 4 hts (wJ_good (by decide)) rfl rfl rfl hini (hts _ (gt_5 (List.mem_of_getElem? (i := 238) rfl) rfl)) ⟨(mh_all 156 (by decide)).1, (mh_all 156 (by decide)).2, by decide +kernel⟩ ⟨hR1, by show 8 + (11 + 11) + 600 ≤ _; omega⟩, hts _ (gt_5 (List.mem_of_getElem? (i := 239) rfl) rfl), hts _ (gt_6 (List.mem_of_getElem? (i := 0) rfl) rfl)⟩ ⟨PcX_blind, ⟨cellB, q1, by rw [q3]; rfl, by rw [q2]; exact (hK.1 _ _ (cL_at 11 (by decide))).2.1⟩, hpre⟩ rfl rfl hrl ?_ (lv_room (by show 1 + (1 + 0) ≤ 8; decide)) dL_9 ⟨hc1, hc2⟩
  show List.map (cv b xo) _ = _
  rw [List.map_cons, List.map_cons, List.map_cons, List.map_cons, List.map_cons, cv_r (by decide)]
  rfl
end
