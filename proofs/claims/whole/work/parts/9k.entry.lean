/-! what stands at the law's entry -/
def fc : List Cond := flatC (Jvm.Cond.and given_1 narrow_1)
def tmL : List (Nat × Nat) := [(10, 54), (5, 44), (10, 78), (5, 97), (5, 102), (5, 114), (5, 127), (5, 129), (5, 191), (5, 193), (5, 162), (5, 167), (4, 41), (11, 310), (11, 319)]
def tm (i : Nat) : Term := .string (on (tmL.getD i (0, 0)).1) (tmL.getD i (0, 0)).2
def bsL : List Nat := [72, 84, 123, 265, 298, 310, 322, 354, 369, 384, 418, 435, 452, 494, 543]
def npL : List Nat := [0, 118, 259, 291, 302, 313, 344, 358, 372, 405, 421, 437, 478, 526, 564, 0, 0, 260, 292, 303, 314, 345, 359, 373, 406, 422, 438, 479, 527, 565, 0, 0, 0, 293, 304, 315, 346, 360, 374, 407, 423, 439, 480, 528, 566, 0, 0, 0, 0, 305, 316, 347, 361, 375, 408, 424, 440, 481, 529, 567, 0, 0, 0, 0, 0, 317, 348, 362, 376, 409, 425, 441, 482, 530, 568, 0, 0, 0, 0, 0, 0, 349, 363, 377, 410, 426, 442, 483, 531, 569, 0, 0, 0, 0, 0, 0, 0, 364, 378, 411, 427, 443, 484, 532, 570, 0, 0, 0, 0, 0, 0, 0, 0, 379, 412, 428, 444, 485, 533, 571, 0, 0, 0, 0, 0, 0, 0, 0, 0, 413, 429, 445, 486, 534, 572, 0, 0, 0, 0, 0, 0, 0, 0, 0, 0, 430, 446, 487, 535, 573, 0, 0, 0, 0, 0, 0, 0, 0, 0, 0, 0, 447, 488, 536, 574, 0, 0, 0, 0, 0, 0, 0, 0, 0, 0, 0, 0, 489, 537, 575, 0, 0, 0, 0, 0, 0, 0, 0, 0, 0, 0, 0, 0, 538, 576, 0, 0, 0, 0, 0, 0, 0, 0, 0, 0, 0, 0, 0, 0, 577, 0, 0, 0, 0, 0, 0, 0, 0, 0, 0, 0, 0, 0, 0, 0]
def bs (i : Nat) : Nat := bsL.getD i 0
theorem f_ex : ∀ i, i < 15 → fc[bs i - 4]? = some (.exactly (tm i) "java/lang/String") := by decide +kernel
theorem f_co : ∀ i, i < 15 → fc[bs i - 3]? = some (.eq (.field (tm i) "java/lang/String" "coder" "B") (.int 0)) := by decide +kernel
theorem f_ar : ∀ i, i < 15 → fc[bs i - 2]? = some (.arrayOf (.field (tm i) "java/lang/String" "value" "[B") .byte) := by decide +kernel
theorem f_le : ∀ i, i < 15 → fc[bs i - 1]? = some (.eq (.length (.field (tm i) "java/lang/String" "value" "[B")) (.int (Int32.ofNat ((tS.map List.length).getD i 0)))) := by decide +kernel
theorem f_ne : ∀ i, i < 15 → ∀ j, j < 15 → i < j → fc[npL.getD (15 * i + j) 0]? = some (.not (.eq (tm i) (tm j))) := by decide +kernel
def elC (i j : Nat) : Cond := .eq (.elem (.field (tm i) "java/lang/String" "value" "[B") (.int (Int32.ofNat j))) (.int ((tS.getD i []).getD j 0))
theorem f_e0 : ∀ j, j < (tS.map List.length).getD 0 0 → fc[bs 0 + j]? = some (elC 0 j) := by decide +kernel
theorem f_e1 : ∀ j, j < (tS.map List.length).getD 1 0 → fc[bs 1 + j]? = some (elC 1 j) := by decide +kernel
theorem f_e2 : ∀ j, j < (tS.map List.length).getD 2 0 → fc[bs 2 + j]? = some (elC 2 j) := by decide +kernel
theorem f_e3 : ∀ j, j < (tS.map List.length).getD 3 0 → fc[bs 3 + j]? = some (elC 3 j) := by decide +kernel
theorem f_e4 : ∀ j, j < (tS.map List.length).getD 4 0 → fc[bs 4 + j]? = some (elC 4 j) := by decide +kernel
theorem f_e5 : ∀ j, j < (tS.map List.length).getD 5 0 → fc[bs 5 + j]? = some (elC 5 j) := by decide +kernel
theorem f_e6 : ∀ j, j < (tS.map List.length).getD 6 0 → fc[bs 6 + j]? = some (elC 6 j) := by decide +kernel
theorem f_e7 : ∀ j, j < (tS.map List.length).getD 7 0 → fc[bs 7 + j]? = some (elC 7 j) := by decide +kernel
theorem f_e8 : ∀ j, j < (tS.map List.length).getD 8 0 → fc[bs 8 + j]? = some (elC 8 j) := by decide +kernel
theorem f_e9 : ∀ j, j < (tS.map List.length).getD 9 0 → fc[bs 9 + j]? = some (elC 9 j) := by decide +kernel
theorem f_e10 : ∀ j, j < (tS.map List.length).getD 10 0 → fc[bs 10 + j]? = some (elC 10 j) := by decide +kernel
theorem f_e11 : ∀ j, j < (tS.map List.length).getD 11 0 → fc[bs 11 + j]? = some (elC 11 j) := by decide +kernel
theorem f_e12 : ∀ j, j < (tS.map List.length).getD 12 0 → fc[bs 12 + j]? = some (elC 12 j) := by decide +kernel
theorem f_e13 : ∀ j, j < (tS.map List.length).getD 13 0 → fc[bs 13 + j]? = some (elC 13 j) := by decide +kernel
theorem f_e14 : ∀ j, j < (tS.map List.length).getD 14 0 → fc[bs 14 + j]? = some (elC 14 j) := by decide +kernel
theorem f_el : ∀ i, i < 15 → ∀ j, j < (tS.map List.length).getD i 0 → fc[bs i + j]? = some (elC i j) := by
  intro i hi
  have h : i = 0 ∨ i = 1 ∨ i = 2 ∨ i = 3 ∨ i = 4 ∨ i = 5 ∨ i = 6 ∨ i = 7 ∨ i = 8 ∨ i = 9 ∨ i = 10 ∨ i = 11 ∨ i = 12 ∨ i = 13 ∨ i = 14 := by omega
  rcases h with rfl | rfl | rfl | rfl | rfl | rfl | rfl | rfl | rfl | rfl | rfl | rfl | rfl | rfl | rfl
  · exact f_e0
  · exact f_e1
  · exact f_e2
  · exact f_e3
  · exact f_e4
  · exact f_e5
  · exact f_e6
  · exact f_e7
  · exact f_e8
  · exact f_e9
  · exact f_e10
  · exact f_e11
  · exact f_e12
  · exact f_e13
  · exact f_e14
theorem tS_lt : ∀ i, i < 15 → (tS.map List.length).getD i 0 < 2 ^ 31 := by decide +kernel
theorem sk_is : ∀ q ∈ SK, q.1.2.2 < 15 ∧ tmL.getD q.1.2.2 (0, 0) = (q.1.1, q.1.2.1) := by decide
theorem SK_ok : ∀ q ∈ SK, fSK q.1 ∈ lw_tbl := tb_in fSK SK (by decide +kernel)
/-- the script's own statement, in its parts -/
def R_law : String := "ShoeOrchardLaw"
def lw_P (b : Addr) (xs : List Int32) (args : Array Value) (s : State) : Prop := args = #[.ref b] ∧ s.IntsAt b xs ∧ xs.length ≤ 3584 ∧ (Jvm.Cond.and given_1 narrow_1).before args s = true
def lw_Q (_ : Array Value) (s : State) (o : Outcome) (t : State) : Prop := o = .returned (some (.int 1)) ∧ Framed s o t [] 601024 7293034
def lw_Z (below : List Frame) (a : Array Value) (s : State) : State → Prop := fun t => ∃ o, t.status = .running ∧ Ended t below o ∧ lw_Q a s o t
def lw_At (p : Program) (s : State) (m : MethodId) (meth : Method) (c : Code) (b L : Nat) (xs : Nat → Int32) : Prop :=
  p.tables.exec = Jvm.exec ∧ c.code = code ∧ meth.sig.returnType = ret ∧ c.maxLocals = 7 ∧ s.vm.findClass R_law = some m.cls ∧ (∀ w ∈ lw_tbl, w.before #[Value.ref b] s = true) ∧ va_X b L xs s s.heap ∧ b < s.heap.size ∧ meth.locks = false ∧ (Jvm.Cond.and given_1 narrow_1).before #[Value.ref b] s = true
theorem arr_p {args : Array Value} {s : State} {ty : FieldType} (h : (Cond.arrayClass ty).before args s = true) : ∃ cA, ArrOfT s cA ty ∧ s.vm.findClass ("[" ++ ty.toString) = some cA := by
  obtain ⟨c, k, comp, h1, h2, h3⟩ := Cond.arrayClass_spec (args := args) (first := s) (o := none) (s := s) (idx := []) h
  exact ⟨c, fun n z => ⟨fun k h => (by cases h), k, h2, comp, h3⟩, h1⟩
theorem arr_o {args : Array Value} {s : State} {C : String} (h : (Cond.arrayOver (.object C)).before args s = true) : ∃ cA, ArrOfT s cA (.object C) ∧ va_RA s cA (.object C) := by
  obtain ⟨comp, c, k, h1, -, h3, h4, h5⟩ := Cond.arrayOver_spec (args := args) (first := s) (o := none) (s := s) (idx := []) h
  exact ⟨c, fun n z => ⟨fun k h => (by cases h), k, h3, comp, h4⟩, k, comp, h3, h4, h1, h5⟩
theorem tw_1 {w : Cond} (h : w ∈ tables_1_1) : w ∈ lw_tbl := List.mem_append_right _ (show w ∈ tables_1 from List.mem_append_left _ h)
theorem tw_2 {w : Cond} (h : w ∈ tables_1_2) : w ∈ lw_tbl := List.mem_append_right _ (show w ∈ tables_1 from List.mem_append_right _ (List.mem_append_left _ h))
theorem tw_3 {w : Cond} (h : w ∈ tables_1_3) : w ∈ lw_tbl := List.mem_append_right _ (show w ∈ tables_1 from List.mem_append_right _ (List.mem_append_right _ (List.mem_append_left _ h)))
theorem tw_4 {w : Cond} (h : w ∈ tables_1_4) : w ∈ lw_tbl := List.mem_append_right _ (show w ∈ tables_1 from List.mem_append_right _ (List.mem_append_right _ (List.mem_append_right _ (List.mem_append_left _ h))))
theorem tw_6 {w : Cond} (h : w ∈ tables_1_6) : w ∈ lw_tbl := List.mem_append_right _ (show w ∈ tables_1 from List.mem_append_right _ (List.mem_append_right _ (List.mem_append_right _ (List.mem_append_right _ (List.mem_append_right _ (List.mem_append_left _ h))))))
theorem cls_k {args : Array Value} {s : State} (hts : ∀ w ∈ gT, w.before args s = true) : ∃ D : va_G, ∀ (k : Nat) (q : vw_C), cL[k]? = some q → u_Kn s q.1 q.2.1 q.2.2 (D.1 k) (D.2 k) := by
  have h : ∀ k, ∃ q : ClassId × (Nat → Nat), k < 13 → u_Kn s (on k) (cT k) (ftT k).length q.1 q.2 := fun k => by
    by_cases hk : k < 13
    · have hi : (Cond.instantiable (on k) (ftT k).length).before args s = true := by
        have h0 : ∀ k, k < 13 → ∃ q ∈ TO, q.1 = k := by decide
        obtain ⟨q, hq, e⟩ := h0 k hk
        have h1 := TO_ok q hq
        rw [e] at h1
        exact hts _ h1
      obtain ⟨c, i, h2⟩ := u_known (ws := gT) hts (cL_ws hk) hi
      exact ⟨(c, i), fun _ => h2⟩
    · exact ⟨(0, fun _ => 0), fun z => absurd z hk⟩
  obtain ⟨f, hf⟩ := Classical.axiomOfChoice h
  refine ⟨(fun k => (f k).1, fun k => (f k).2), fun k q hq => ?_⟩
  have hk : k < 13 := (List.getElem?_eq_some_iff.mp hq).1
  have e := cL_at k hk
  rw [e] at hq
  cases hq
  exact hf k hk
theorem entry {p : Program} {s : State} {m : MethodId} {meth : Method} {c : Code} {b0 L : Nat} {xs : Nat → Int32} (C0 : lw_At p s m meth c b0 L xs) : ∃ (D : va_G) (cy : Nat → ClassId) (xo : Nat → Option Nat) (b : Nat), b + 1 = s.heap.size ∧ CX p s m #[Value.ref b0] c code 13 7 D cy b xo L xs ∧ TY b s s.heap ∧ xo 300 = some b0 := by
  obtain ⟨hx, hb, hr, hml, hown, htb, hX, hbl, hlocks, hgv⟩ := C0
  have hfc : ∀ w ∈ fc, w.before #[Value.ref b0] s = true := flat_of_before _ hgv
  have hat : ∀ {k : Nat} {w : Cond}, fc[k]? = some w → w.before #[Value.ref b0] s = true := fun h => hfc _ (List.mem_of_getElem? h)
  have hts : ∀ w ∈ gT, w.before #[Value.ref b0] s = true := fun w hw => htb w (List.mem_filter.mp hw).1
  obtain ⟨b, hbs⟩ : ∃ b, b + 1 = s.heap.size := ⟨s.heap.size - 1, by omega⟩
  have hA : ∀ a : Nat, a < s.heap.size → ¬ AA b a := fun a ha z => by
    have z : b < a := z
    omega
  obtain ⟨D, hD⟩ := cls_k hts
  obtain ⟨c3, g3, n3⟩ := arr_p (hts _ (AR_ok (.char, 185) (by decide)))
  obtain ⟨c4, g4, n4⟩ := arr_p (hts _ (AR_ok (.int, 208) (by decide)))
  obtain ⟨c5, g5, n5⟩ := arr_p (hts _ (AR_ok (.long, 209) (by decide)))
  obtain ⟨c6, g6, n6⟩ := arr_p (hts _ (AR_ok (.boolean, 399) (by decide)))
  have aS := htb _ (tw_2 (w := .arrayOver (.object (on 9))) (List.mem_of_getElem? (i := 31) rfl))
  have aF := htb _ (tw_2 (w := .arrayOver (.object (on 0))) (List.mem_of_getElem? (i := 33) rfl))
  obtain ⟨c7, g7, n7⟩ := arr_o aF
  obtain ⟨c8, g8, n8⟩ := arr_o aS
  let cy : Nat → ClassId := fun k => if k = 13 then c3 else if k = 14 then c4 else if k = 15 then c5 else if k = 16 then c6 else if k = 17 then c7 else c8
  have hK : va_K D cL (tyL cy) s := ⟨hD, fun k q hq => by
    match k, hq with
    | 0, hq => cases hq; exact ⟨g3, n3⟩
    | 1, hq => cases hq; exact ⟨g4, n4⟩
    | 2, hq => cases hq; exact ⟨g5, n5⟩
    | 3, hq => cases hq; exact ⟨g6, n6⟩
    | 4, hq => cases hq; exact ⟨g7, n7⟩
    | 5, hq => cases hq; exact ⟨g8, n8⟩
    | k + 6, hq => simp [tyL] at hq⟩
  obtain ⟨adK, adV, hS, hev⟩ := vk_Sof (args := #[Value.ref b0]) (s := s) (N := 15) (tm := tm) (len := tS.map List.length) (byt := tS) (A := AA b) tS_lt (fun i hi => hat (f_ex i hi)) (fun i hi => hat (f_co i hi)) (fun i hi => hat (f_ar i hi)) (fun i hi => hat (f_le i hi)) (fun i hi j hj => hat (f_el i hi j hj)) (fun i j hi hj hn => by
    rcases Nat.lt_or_ge i j with h | h
    · exact Or.inl (hat (f_ne i hi j hj h))
    · exact Or.inr (hat (f_ne j hj i hi (by omega)))) hA
  obtain ⟨t200, e200, T200⟩ := va_Tof (args := #[Value.ref b0]) (s := s) (tm := .static "ShoeOrchard" "STANDS" "[I") (ty := .int) (N := 4) (f := fun j => .int (xrow xs 200 j)) (A := AA b) (by decide) (hat (k := 10) rfl) (va_eqt (hat (k := 11) rfl)) (fun j hj => by
    match j, hj with
    | 0, _ => exact va_eqt (hat (k := 12) rfl)
    | 1, _ => exact va_eqt (hat (k := 13) rfl)
    | 2, _ => exact va_eqt (hat (k := 14) rfl)
    | 3, _ => exact va_eqt (hat (k := 15) rfl)
    | j + 4, hj => exact absurd hj (by omega)) hA
  obtain ⟨t201, e201, T201⟩ := va_Tof (args := #[Value.ref b0]) (s := s) (tm := .static "ShoeOrchard" "ROAD" "[I") (ty := .int) (N := 4) (f := fun j => .int (xrow xs 201 j)) (A := AA b) (by decide) (hat (k := 17) rfl) (va_eqt (hat (k := 18) rfl)) (fun j hj => by
    match j, hj with
    | 0, _ => exact va_eqt (hat (k := 19) rfl)
    | 1, _ => exact va_eqt (hat (k := 20) rfl)
    | 2, _ => exact va_eqt (hat (k := 21) rfl)
    | 3, _ => exact va_eqt (hat (k := 22) rfl)
    | j + 4, hj => exact absurd hj (by omega)) hA
  have Z0 : va_Z "java/lang/String" "COMPACT_STRINGS" "Z" (.int 1) (AA b) s s.heap := va_Zof (htb _ (tw_3 (List.mem_of_getElem? (i := 27) rfl))) (htb _ (tw_1 (List.mem_of_getElem? (i := 16) rfl))) (va_eqt (hat (k := 4) rfl)) hA
  have Z1 : va_Z "ShoeOrchard" "STANDS" "[I" (.ref t200) (AA b) s s.heap := va_Zof (htb _ (tw_4 (List.mem_of_getElem? (i := 89) rfl))) (htb _ (tw_1 (List.mem_of_getElem? (i := 1) rfl))) e200 hA
  have Z2 : va_Z "ShoeOrchard" "ROAD" "[I" (.ref t201) (AA b) s s.heap := va_Zof (htb _ (tw_4 (List.mem_of_getElem? (i := 172) rfl))) (htb _ (tw_1 (List.mem_of_getElem? (i := 1) rfl))) e201 hA
  have Z3 : ∃ o : Option Nat, va_Z "jdk/internal/util/Preconditions" "SIOOBE_FORMATTER" "Ljava/util/function/BiFunction;" (va_rf o) (AA b) s s.heap := by
    rcases va_Zqof (args := #[Value.ref b0]) (htb _ (tw_3 (w := .laysStatic "jdk/internal/util/Preconditions" "SIOOBE_FORMATTER" "Ljava/util/function/BiFunction;") (List.mem_of_getElem? (i := 70) rfl))) (htb _ (tw_1 (w := .initialized "jdk/internal/util/Preconditions") (List.mem_of_getElem? (i := 20) rfl))) (hat (k := 5) rfl) hA with h | ⟨t, h⟩
    · exact ⟨none, h⟩
    · exact ⟨some t, h⟩
  obtain ⟨o3, Z3⟩ := Z3
  let xo : Nat → Option Nat := fun n => if n < 15 then some (adK n) else if 100 ≤ n ∧ n < 115 then some (adV (n - 100)) else if n = 200 then some t200 else if n = 201 then some t201 else if n = 202 then o3 else some b0
  have x1 : ∀ i, i < 15 → xo i = some (adK i) := fun i hi => if_pos hi
  have x2 : ∀ i, i < 15 → xo (100 + i) = some (adV i) := fun i hi => by
    show (if 100 + i < 15 then _ else if 100 ≤ 100 + i ∧ 100 + i < 115 then some (adV (100 + i - 100)) else _) = _
    rw [if_neg (by omega), if_pos (by omega), show 100 + i - 100 = i by omega]
  have y1 : ∀ i, i < 15 → xa0 xo i = adK i := fun i hi => by unfold xa0; rw [x1 i hi]; rfl
  have y2 : ∀ i, i < 15 → xa0 xo (100 + i) = adV i := fun i hi => by unfold xa0; rw [x2 i hi]; rfl
  have hEX : EXT xo L xs b s s.heap := by
    refine ⟨fun q hq => va_Nw.of rfl (htb _ (MLN_ok q hq)), fun q hq => va_Nw.of rfl (htb _ (GN_ok q hq)), ⟨va_AO.of aF, va_AO.of aS⟩, fun q hq => ?_, ⟨fun i hi => ?_, fun i j hi hj e => ?_⟩, Z0, fun n hn => ?_, fun n hn => ?_, ⟨hX, hbl, hA b0 hbl⟩, fun n hn => ?_⟩
    · obtain ⟨h1, h2⟩ := sk_is q hq
      have h3 := hev q.1.2.2 h1
      have h4 : tm q.1.2.2 = .string (on q.1.1) q.1.2.1 := by unfold tm; rw [h2]
      rw [h4] at h3
      rw [y1 _ h1]
      exact vk_R.of (A := #[Value.ref b0]) (htb _ (SK_ok q hq)) h3
    · have h := hS.1 i hi
      rw [← y1 i hi, ← y2 i hi] at h
      exact h
    · have e : xa0 xo i = xa0 xo j := e
      rw [y1 i hi, y1 j hj] at e
      exact hS.2 i j hi hj e
    · rcases hn with rfl | rfl | rfl
      · exact Z1
      · exact Z2
      · exact Z3
    · rcases hn with rfl | rfl
      · exact T200
      · exact T201
    · rcases hn with h | ⟨h1, h2⟩ | rfl | rfl | rfl
      · unfold xa0; rw [x1 n h]; rfl
      · have := x2 (n - 100) (by omega)
        rw [show 100 + (n - 100) = n by omega] at this
        unfold xa0; rw [this]; rfl
      · rfl
      · rfl
      · rfl
  have hTY : TY b s s.heap := by
    refine ⟨⟨va_Nw.of rfl (htb _ (tw_6 (List.mem_of_getElem? (i := 7) rfl))), va_Nw.of rfl (htb _ (tw_6 (List.mem_of_getElem? (i := 9) rfl))), va_Nw.of rfl (htb _ (tw_6 (List.mem_of_getElem? (i := 11) rfl))), va_Nw.of rfl (htb _ (tw_6 (List.mem_of_getElem? (i := 13) rfl))), vx_Zqof (htb _ (tw_6 (List.mem_of_getElem? (i := 32) rfl))) (htb _ (tw_1 (List.mem_of_getElem? (i := 23) rfl))) (hat (k := 23) rfl) hA, vx_Zqof (htb _ (tw_6 (List.mem_of_getElem? (i := 34) rfl))) (htb _ (tw_1 (List.mem_of_getElem? (i := 23) rfl))) (hat (k := 24) rfl) hA⟩, ⟨adK 13, vk_R.of (A := #[Value.ref b0]) (htb _ (tw_6 (List.mem_of_getElem? (i := 44) rfl))) (hev 13 (by decide))⟩, adK 14, vk_R.of (A := #[Value.ref b0]) (htb _ (tw_6 (List.mem_of_getElem? (i := 73) rfl))) (hev 14 (by decide))⟩
  exact ⟨D, cy, xo, b, hbs, ⟨hx, hb, hml, hown, hts, hK, hEX, by omega⟩, hTY, rfl⟩
