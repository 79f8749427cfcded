/-! a method's contract out of a run of the small machine -/
theorem cls_all : ∀ j, j < 292 → (yy j).cls = on (ow j) ∧ ow j < 20 := by decide +kernel
theorem mls_all : ∀ j, j < 292 → ml j ≤ 40 := by decide +kernel
theorem ple_all : ∀ j, j < 292 → plainName (yy j).cls = true ∨ j = 286 ∨ j = 287 ∨ j = 288 := by decide +kernel
theorem pl_286 : plainFor (yy 286) = true := by decide +kernel
theorem pl_287 : plainFor (yy 287) = true := by decide +kernel
theorem pl_288 : plainFor (yy 288) = true := by decide +kernel
theorem plf_all {j : Nat} (h : j < 292) : plainFor (yy j) = true := by
  rcases ple_all j h with h | rfl | rfl | rfl
  · exact plainFor_of_name h
  · exact pl_286
  · exact pl_287
  · exact pl_288
theorem mh_all : ∀ j, j < 292 → (yy j).cls ≠ "java/lang/invoke/MethodHandle" ∧ (yy j).cls ≠ "java/lang/invoke/VarHandle" := by decide +kernel
theorem par_st : ∀ j ∈ SOs, (parseMethodDescriptor (yy j).desc).map (fun d => d.parameters.length) = some (ac j) := by decide +kernel
theorem par_in : ∀ j ∈ NOs, (parseMethodDescriptor (yy j).desc).map (fun d => d.parameters.length) = some (ac j - 1) ∧ 1 ≤ ac j := by decide +kernel
theorem SO_lt : ∀ j ∈ SOs, j ≠ 291 → j < 292 ∧ j ∈ coL := by decide +kernel
theorem NO_lt : ∀ j ∈ NOs, j < 292 ∧ j ∈ coL := by decide +kernel
theorem ini_rr : ∀ j ∈ NOs, (yy j).name = "<init>" → rr j = none := by decide +kernel
theorem kd_cls : ∀ j ∈ EOs, (kd j < 13 → (yy j).cls = on (kd j)) ∧ (kd j = 20 → (yy j).cls = "java/lang/String") := by decide +kernel
theorem SO_in {j : Nat} (h : j ∈ SOs) : Cond.static (yy j) ∈ gT := by
  obtain ⟨q, hq, rfl⟩ := List.mem_map.mp h
  exact SO_ok q hq
theorem NO_in {j : Nat} (h : j ∈ NOs) : Cond.instanceMethod (yy j) ∈ gT := by
  obtain ⟨q, hq, rfl⟩ := List.mem_map.mp h
  exact NO_ok q hq
theorem EO_in {j : Nat} (h : j ∈ EOs) : Cond.selects (yy j).cls (yy j) (yy j) ∈ gT := by
  obtain ⟨q, hq, rfl⟩ := List.mem_map.mp h
  exact EO_ok q hq
theorem ML_in {o x j : Nat} (h : (o, x, j) ∈ MLs) : Cond.methodLink (on o) x (yy j) ∈ gT := by
  obtain ⟨q, hq, e⟩ := List.mem_map.mp h
  have h1 := ML_ok q hq
  rw [e] at h1
  exact h1
theorem OB_in {o x : Nat} (h : (o, x) ∈ OBs) : Cond.methodLink (on o) x objectInit ∈ gT := by
  obtain ⟨q, hq, e⟩ := List.mem_map.mp h
  have h1 := OB_ok q hq
  rw [e] at h1
  exact h1
theorem AC_in {o x : Nat} (h : (o, x) ∈ ACs) : Cond.methodLink (on o) x arraycopyName ∈ gT := by
  obtain ⟨q, hq, e⟩ := List.mem_map.mp h
  have h1 := AC_ok q hq
  rw [e] at h1
  exact h1
def wJ (j : Nat) : List Cond := Cond.code (yy j) (bb j) (ml j) (rr j) :: gT
theorem wJ_good {j : Nat} (h : j ∈ coL) : GoodIn gT (wJ j) := by
  intro w hw
  rcases List.mem_cons.mp hw with rfl | hw
  · exact gT_good _ (CO_ok j h)
  · exact gT_good w hw
def rmJ (d : Nat) (M M1 : mm_M) : Room := { frames := d, cells := mS M1 - mS M, slots := mW M1 - mW M, locals := 60 * d }
def PcJ (D : va_G) (cy : Nat → ClassId) (b : Nat) (xo : Nat → Option Nat) (L : Nat) (xs : Nat → Int32) (a : List Value) (M : mm_M) : Array Value → State → Prop := fun v U => v = (a.map (cv b xo)).toArray ∧ WR D cy b M U.heap ∧ va_K D cL (tyL cy) U ∧ EXT xo L xs b U U.heap ∧ b < U.heap.size
def QcJ (D : va_G) (cy : Nat → ClassId) (b : Nat) (xo : Nat → Option Nat) (r : Option Value) (M1 : mm_M) : Array Value → State → Outcome → State → Prop := fun _ st oc t => oc = .returned (r.map (cv b xo)) ∧ WR D cy b M1 t.heap ∧ va_F (AA b) st t
def MC (l : Launch) (D : va_G) (cy : Nat → ClassId) (b : Nat) (xo : Nat → Option Nat) (L : Nat) (xs : Nat → Int32) (d j : Nat) (a : List Value) (M : mm_M) (r : Option Value) (M1 : mm_M) : Prop :=
  Met l (yy j) (wJ j) (rmJ d M M1) (PcJ D cy b xo L xs a M) (QcJ D cy b xo r M1) (mS M1 - mS M) (mW M1 - mW M) (AA b)
section
variable {p : Program} {l : Launch} {e : Env} {R : Room} {s : State} {m : MethodId} {args : Array Value} {below : List Frame} {meth : Method} {c : Code} {H : Heap} {locs : List Loc} {cells slots : Nat} {Qf : State → Prop} {cc : ByteArray} {pc : Nat} {rl : Array Slot} {o nL : Nat} {D : va_G} {cy : Nat → ClassId} {b : Nat} {xo : Nat → Option Nat} {L : Nat} {xs : Nat → Int32} {M M1 : mm_M} {st : List Value}
theorem PcJ_blind {a : List Value} : FrameBlind (PcJ D cy b xo L xs a M) := fun _ U g mk q => ⟨q.1, q.2.1, va_K.moved (u := U) (Vm.Alike.refl U.vm) q.2.2.1, EXT.vm rfl q.2.2.2.1, q.2.2.2.2⟩
theorem PcJ_at {a : List Value} (hC : CX p s m args c cc o nL D cy b xo L xs) (hW : WR D cy b M H) (hS : va_S (AA b) s.heap H locs) : ∀ U : State, U.heap = H → s.WarmedH U.vm → PcJ D cy b xo L xs a M (a.map (cv b xo)).toArray U := by
  intro U hU hw
  obtain ⟨hex, hb, hml, hown, hts, hK, hE, hbs⟩ := hC
  refine ⟨rfl, by rw [hU]; exact hW, va_K.moved hw.alike hK, ?_, by rw [hU]; exact Nat.lt_of_lt_of_le hbs hS.1⟩
  rw [hU]
  exact hE.to hw hS.1 hS.2.1
theorem r_ret {r : Option Value} {mc ms : Nat} {rest st0 : List Value} {av : Array Value} (hr : va_Run p l e R s m args below meth c H locs cells slots mc ms (F0 m pc rl st0) rest (QcJ D cy b xo r M1 av) (AA b)) (hS : va_S (AA b) s.heap H locs)
    (kk : ∀ (H1 : Heap) (locs1 : List Loc), WR D cy b M1 H1 → va_S (AA b) s.heap H1 locs1 → W p l e R s m args below meth c H1 locs1 (cells + mc) (slots + ms) Qf (F0 m (pc + 3) rl ((r.map (cv b xo)).toList ++ rest))) : W p l e R s m args below meth c H locs cells slots Qf (F0 m pc rl st0) := by
  intro T hT X
  obtain ⟨v, st₀, t, T', Lc, h0, X', hL, e1, e2, ⟨hv, hw, hz, hk⟩, st⟩ := hr T hT X
  cases hv
  rw [h0] at hz hk
  obtain ⟨t2, a1, b1⟩ := kk T'.heap (locs ++ Lc) (by rw [e1]; exact hw) ⟨Nat.le_trans hS.1 (by rw [e1]; exact hz), fun q h1 h2 => by rw [e1, hk q (Nat.lt_of_lt_of_le h1 hS.1) h2]; exact hS.2.1 q h1 h2, fun q hq => by
      rcases List.mem_append.mp hq with h | h
      · exact hS.2.2 q h
      · exact hL q h⟩ T' rfl X'
  exact ⟨t2, st t2 a1, b1⟩
theorem cats_cv (st : List Value) : ((st.map (cv b xo)).map fun v => v.category).sum = cats st := by
  unfold cats
  rw [List.map_map]
  congr 1
  apply List.map_congr_left
  intro v _
  exact cv_cat b xo v
theorem toL (r : Option Value) (rest : List Value) : (r.map (cv b xo)).toList ++ rest.map (cv b xo) = (r.toList ++ rest).map (cv b xo) := by
  cases r <;> simp
theorem r_callS {d j x : Nat} {a rest : List Value} {r : Option Value} (hC : CX p s m args c cc o nL D cy b xo L xs) (hW : WR D cy b M H) (hS : va_S (AA b) s.heap H locs) (hM : MC l D cy b xo L xs d j a M r M1) (hj : j ∈ SOs) (hj0 : j ≠ 291) (hl : (o, x, j) ∈ MLs) (hn : a.length = ac j) (hrl : rl.size = nL) (hct : cats rest ≤ 8) (hR1 : d + 1 ≤ R.frames) (hR2 : 60 * (d + 1) ≤ R.locals) (hc1 : cells + (mS M1 - mS M) ≤ R.cells) (hc2 : slots + (mW M1 - mW M) ≤ R.slots) (hdg : decode cc pc = .ok (.invokestatic x, 3))
    (kk : ∀ (H1 : Heap) (locs1 : List Loc), WR D cy b M1 H1 → va_S (AA b) s.heap H1 locs1 → W p l e R s m args below meth c H1 locs1 (cells + (mS M1 - mS M)) (slots + (mW M1 - mW M)) Qf (F0 m (pc + 3) rl ((r.toList ++ rest).map (cv b xo)))) : W p l e R s m args below meth c H locs cells slots Qf (F0 m pc rl ((a.reverse ++ rest).map (cv b xo))) := by
  obtain ⟨hlt, hco⟩ := SO_lt j hj hj0
  have hts := hC.2.2.2.2.1
  obtain ⟨hcl, how⟩ := cls_all j hlt
  have hml := mls_all j hlt
  have hini : (Cond.initialized (yy j).cls).before args s = true := by rw [hcl]; exact hts _ (IO_in how)
  refine r_ret (va_runS (As := a.map (cv b xo)) (rest := rest.map (cv b xo)) (n := ac j) (bytes := bb j) (maxL := ml j) (ret := rr j) ⟨hC.1, hC.2.1, hC.2.2.1, hC.2.2.2.1, hts⟩ hM ⟨callB_of (ac j) hts (wJ_good hco) rfl rfl rfl hini (hts _ (ML_in hl)) ⟨(mh_all j hlt).1, (mh_all j hlt).2, par_st j hj⟩ ⟨hR1, by show 8 + (ml j + 11) + 60 * d ≤ _; omega⟩, hts _ (SO_in hj)⟩ ⟨PcJ_blind, PcJ_at hC hW hS⟩ rfl (by rw [List.length_map]; exact hn) hrl (by rw [List.map_append, List.map_reverse]) (lv_room (by rw [cats_cv]; exact hct)) hdg ⟨hc1, hc2⟩) hS (fun H1 locs1 hw hs => ?_)
  rw [toL]
  exact kk H1 locs1 hw hs
theorem r_callV {d j x ra : Nat} {a rest : List Value} {r : Option Value} (hC : CX p s m args c cc o nL D cy b xo L xs) (hW : WR D cy b M H) (hS : va_S (AA b) s.heap H locs) (hM : MC l D cy b xo L xs d j (.ref ra :: a) M r M1) (hk : mK M ra = kd j) (hk2 : kd j < 13) (hj : j ∈ NOs) (hj2 : j ∈ EOs) (hl : (o, x, j) ∈ MLs) (hn : a.length + 1 = ac j) (hrl : rl.size = nL) (hct : cats rest ≤ 8) (hR1 : d + 1 ≤ R.frames) (hR2 : 60 * (d + 1) ≤ R.locals) (hc1 : cells + (mS M1 - mS M) ≤ R.cells) (hc2 : slots + (mW M1 - mW M) ≤ R.slots) (hdg : decode cc pc = .ok (.invokevirtual x, 3))
    (kk : ∀ (H1 : Heap) (locs1 : List Loc), WR D cy b M1 H1 → va_S (AA b) s.heap H1 locs1 → W p l e R s m args below meth c H1 locs1 (cells + (mS M1 - mS M)) (slots + (mW M1 - mW M)) Qf (F0 m (pc + 3) rl ((r.toList ++ rest).map (cv b xo)))) : W p l e R s m args below meth c H locs cells slots Qf (F0 m pc rl ((a.reverse ++ .ref ra :: rest).map (cv b xo))) := by
  obtain ⟨hlt, hco⟩ := NO_lt j hj
  have hts := hC.2.2.2.2.1
  have hK := hC.2.2.2.2.2.1
  obtain ⟨hcl, how⟩ := cls_all j hlt
  have hml := mls_all j hlt
  have hini : (Cond.initialized (yy j).cls).before args s = true := by rw [hcl]; exact hts _ (IO_in how)
  obtain ⟨hra, cellB, q1, q2, q3, -⟩ := hW.ob hk hk2
  have hkc := (kd_cls j hj2).1 hk2
  have ea : ((Value.ref ra :: a).map (cv b xo)) = .ref (b + ra) :: a.map (cv b xo) := by rw [List.map_cons, cv_r hra]
  have hpre := PcJ_at (a := .ref ra :: a) hC hW hS
  rw [ea] at hpre
  refine r_ret (va_runV (C := (yy j).cls) (b := b + ra) (As := a.map (cv b xo)) (rest := rest.map (cv b xo)) (n := ac j - 1) (bytes := bb j) (maxL := ml j) (ret := rr j) ⟨hC.1, hC.2.1, hC.2.2.1, hC.2.2.2.1, hts⟩ hM ⟨callB_of (ac j - 1) hts (wJ_good hco) rfl rfl rfl hini (hts _ (ML_in hl)) ⟨(mh_all j hlt).1, (mh_all j hlt).2, (par_in j hj).1⟩ ⟨hR1, by show 8 + (ml j + 11) + 60 * d ≤ _; omega⟩, hts _ (NO_in hj), hts _ (EO_in hj2)⟩ ⟨PcJ_blind, ⟨cellB, q1, by rw [q3]; rfl, by rw [q2, hkc]; exact (hK.1 _ _ (cL_at _ hk2)).2.1⟩, hpre⟩ rfl (by rw [List.length_map]; omega) hrl (by rw [List.map_append, List.map_reverse, List.map_cons, cv_r hra]) (lv_room (by rw [cats_cv]; exact hct)) hdg ⟨hc1, hc2⟩) hS (fun H1 locs1 hw hs => ?_)
  rw [toL]
  exact kk H1 locs1 hw hs
theorem r_callX {d j x i : Nat} {a rest : List Value} {r : Option Value} (hC : CX p s m args c cc o nL D cy b xo L xs) (hW : WR D cy b M H) (hS : va_S (AA b) s.heap H locs) (hM : MC l D cy b xo L xs d j (.retAddr i :: a) M r M1) (hi : i < 15) (hk2 : kd j = 20) (hj : j ∈ NOs) (hj2 : j ∈ EOs) (hl : (o, x, j) ∈ MLs) (hn : a.length + 1 = ac j) (hrl : rl.size = nL) (hct : cats rest ≤ 8) (hR1 : d + 1 ≤ R.frames) (hR2 : 60 * (d + 1) ≤ R.locals) (hc1 : cells + (mS M1 - mS M) ≤ R.cells) (hc2 : slots + (mW M1 - mW M) ≤ R.slots) (hdg : decode cc pc = .ok (.invokevirtual x, 3))
    (kk : ∀ (H1 : Heap) (locs1 : List Loc), WR D cy b M1 H1 → va_S (AA b) s.heap H1 locs1 → W p l e R s m args below meth c H1 locs1 (cells + (mS M1 - mS M)) (slots + (mW M1 - mW M)) Qf (F0 m (pc + 3) rl ((r.toList ++ rest).map (cv b xo)))) : W p l e R s m args below meth c H locs cells slots Qf (F0 m pc rl ((a.reverse ++ .retAddr i :: rest).map (cv b xo))) := by
  obtain ⟨hlt, hco⟩ := NO_lt j hj
  have hts := hC.2.2.2.2.1
  obtain ⟨hcl, how⟩ := cls_all j hlt
  have hml := mls_all j hlt
  have hini : (Cond.initialized (yy j).cls).before args s = true := by rw [hcl]; exact hts _ (IO_in how)
  have hkc := (kd_cls j hj2).2 hk2
  have hE := hC.2.2.2.2.2.2.1
  have hxi : cv b xo (.retAddr i) = .ref (xa0 xo i) := cv_x (hE.2.2.2.2.2.2.2.2.2 i (Or.inl hi))
  have ea : ((Value.retAddr i :: a).map (cv b xo)) = .ref (xa0 xo i) :: a.map (cv b xo) := by rw [List.map_cons, hxi]
  have hpre := PcJ_at (a := .retAddr i :: a) hC hW hS
  rw [ea] at hpre
  have hrc := vk_recv hE.2.2.2.2.1 hi hS
  refine r_ret (va_runV (C := (yy j).cls) (b := xa0 xo i) (As := a.map (cv b xo)) (rest := rest.map (cv b xo)) (n := ac j - 1) (bytes := bb j) (maxL := ml j) (ret := rr j) ⟨hC.1, hC.2.1, hC.2.2.1, hC.2.2.2.1, hts⟩ hM ⟨callB_of (ac j - 1) hts (wJ_good hco) rfl rfl rfl hini (hts _ (ML_in hl)) ⟨(mh_all j hlt).1, (mh_all j hlt).2, (par_in j hj).1⟩ ⟨hR1, by show 8 + (ml j + 11) + 60 * d ≤ _; omega⟩, hts _ (NO_in hj), hts _ (EO_in hj2)⟩ ⟨PcJ_blind, by rw [hkc]; exact hrc, hpre⟩ rfl (by rw [List.length_map]; omega) hrl (by rw [List.map_append, List.map_reverse, List.map_cons, hxi]) (lv_room (by rw [cats_cv]; exact hct)) hdg ⟨hc1, hc2⟩) hS (fun H1 locs1 hw hs => ?_)
  rw [toL]
  exact kk H1 locs1 hw hs
theorem r_callI {d j x ra : Nat} {a rest : List Value} {r : Option Value} (hC : CX p s m args c cc o nL D cy b xo L xs) (hW : WR D cy b M H) (hS : va_S (AA b) s.heap H locs) (hM : MC l D cy b xo L xs d j (.ref ra :: a) M r M1) (hra : ra ≠ 0) (hj : j ∈ NOs) (hnm : (yy j).name = "<init>") (hl : (o, x, j) ∈ MLs ∨ (o, x, j) ∈ MLNs) (hn : a.length + 1 = ac j) (hrl : rl.size = nL) (hct : cats rest ≤ 8) (hR1 : d + 1 ≤ R.frames) (hR2 : 60 * (d + 1) ≤ R.locals) (hc1 : cells + (mS M1 - mS M) ≤ R.cells) (hc2 : slots + (mW M1 - mW M) ≤ R.slots) (hdg : decode cc pc = .ok (.invokespecial x, 3))
    (kk : ∀ (H1 : Heap) (locs1 : List Loc), WR D cy b M1 H1 → va_S (AA b) s.heap H1 locs1 → W p l e R s m args below meth c H1 locs1 (cells + (mS M1 - mS M)) (slots + (mW M1 - mW M)) Qf (F0 m (pc + 3) rl ((r.toList ++ rest).map (cv b xo)))) : W p l e R s m args below meth c H locs cells slots Qf (F0 m pc rl ((a.reverse ++ .ref ra :: rest).map (cv b xo))) := by
  obtain ⟨hlt, hco⟩ := NO_lt j hj
  have hts := hC.2.2.2.2.1
  obtain ⟨hcl, how⟩ := cls_all j hlt
  have hml := mls_all j hlt
  have hini : (Cond.initialized (yy j).cls).before args s = true := by rw [hcl]; exact hts _ (IO_in how)
  have hrr := ini_rr j hj hnm
  have ea : ((Value.ref ra :: a).map (cv b xo)) = .ref (b + ra) :: a.map (cv b xo) := by rw [List.map_cons, cv_r hra]
  have hpre := PcJ_at (a := .ref ra :: a) hC hW hS
  rw [ea] at hpre
  have hd := par_in j hj
  have hfit : rmJ d M M1 = rmJ d M M1 := rfl
  have hw0 : wJ j = Cond.code (yy j) (bb j) (ml j) none :: gT := by unfold wJ; rw [hrr]
  rcases hl with hl | hl
  · refine r_ret (va_runI (b := b + ra) (As := a.map (cv b xo)) (rest := rest.map (cv b xo)) (n := ac j - 1) (bytes := bb j) (maxL := ml j) ⟨hC.1, hC.2.1, hC.2.2.1, hC.2.2.2.1, hts⟩ hM ⟨callB_of (ac j - 1) hts (wJ_good hco) hw0 rfl rfl hini (hts _ (ML_in hl)) ⟨(mh_all j hlt).1, (mh_all j hlt).2, hd.1⟩ ⟨hR1, by show 8 + (ml j + 11) + 60 * d ≤ _; omega⟩, hnm, hts _ (NO_in hj)⟩ ⟨PcJ_blind, hpre⟩ rfl (by rw [List.length_map]; omega) hrl (by rw [List.map_append, List.map_reverse, List.map_cons, cv_r hra]) (lv_room (by rw [cats_cv]; exact hct)) hdg ⟨hc1, hc2⟩) hS (fun H1 locs1 hw hs => ?_)
    rw [toL]
    exact kk H1 locs1 hw hs
  · obtain ⟨q, hq, e1⟩ := List.mem_map.mp hl
    have hnest := hC.2.2.2.2.2.2.1.1 q hq
    rw [e1] at hnest
    refine r_ret (va_runIN (host := "ShoeOrchard") (b := b + ra) (As := a.map (cv b xo)) (rest := rest.map (cv b xo)) (n := ac j - 1) (bytes := bb j) (maxL := ml j) ⟨hC.1, hC.2.1, hC.2.2.1, hC.2.2.2.1, hts⟩ hM ⟨va_cnB (ac j - 1) hts (wJ_good hco) hw0 rfl rfl hnest hini ⟨(mh_all j hlt).1, (mh_all j hlt).2, hd.1⟩ ⟨hR1, by show 8 + (ml j + 11) + 60 * d ≤ _; omega⟩, hnm, hts _ (NO_in hj)⟩ ⟨PcJ_blind, hpre⟩ rfl (by rw [List.length_map]; omega) hrl (by rw [List.map_append, List.map_reverse, List.map_cons, cv_r hra]) (lv_room (by rw [cats_cv]; exact hct)) hdg ⟨hc1, hc2⟩) hS (fun H1 locs1 hw hs => ?_)
    rw [toL]
    exact kk H1 locs1 hw hs
end
