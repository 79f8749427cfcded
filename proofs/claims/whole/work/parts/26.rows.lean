section
variable {p : Program} {l : Launch} {e : Env} {R : Room} {s : State} {m : MethodId} {args : Array Value} {below : List Frame} {meth : Method} {c : Code} {H : Heap} {locs : List Loc} {cells slots : Nat} {Qf : State → Prop} {cc : ByteArray} {pc : Nat} {rl : Array Slot} {o nL : Nat} {D : va_G} {cy : Nat → ClassId} {b : Nat} {xo : Nat → Option Nat} {L : Nat} {xs : Nat → Int32} {M : mm_M} {st : List Value}
theorem r_iald {a : Nat} {i : Int32} (hC : CX p s m args c cc o nL D cy b xo L xs) (hW : WR D cy b M H) (hk : mK M a = 14) (hin : vp_in i (mN M a)) (hdg : decode cc pc = .ok (.iaload, 1))
    (kk : W p l e R s m args below meth c H locs cells slots Qf (F0 m (pc + 1) rl (.int (mI M a i.toNatClampNeg) :: st))) : W p l e R s m args below meth c H locs cells slots Qf (F0 m pc rl (.int i :: cv b xo (.ref a) :: st)) := by
  obtain ⟨hx, hb, hml, hown, hts, hK, hE, hbs⟩ := hC
  obtain ⟨ha, hc⟩ := hW.ar hk (by omega) (by omega)
  rw [cv_r ha]
  have hlt : i.toNatClampNeg < mN M a := Nat.not_le.mp fun q => hin (Or.inr q)
  exact W.iald (v := .int (mI M a i.toNatClampNeg)) hx hb hc ((hK.2 1 _ rfl).1 _ _) (fun q => by cases q) (by rw [arrV_size]; exact hin) (by rw [arrV_read _ _ hlt]; rfl) rfl rfl hdg kk
theorem r_cald {a : Nat} {i : Int32} (hC : CX p s m args c cc o nL D cy b xo L xs) (hW : WR D cy b M H) (hk : mK M a = 13) (hin : vp_in i (mN M a)) (hdg : decode cc pc = .ok (.caload, 1))
    (kk : W p l e R s m args below meth c H locs cells slots Qf (F0 m (pc + 1) rl (.int (mI M a i.toNatClampNeg) :: st))) : W p l e R s m args below meth c H locs cells slots Qf (F0 m pc rl (.int i :: cv b xo (.ref a) :: st)) := by
  obtain ⟨hx, hb, hml, hown, hts, hK, hE, hbs⟩ := hC
  obtain ⟨ha, hc⟩ := hW.ar hk (by omega) (by omega)
  rw [cv_r ha]
  have hlt : i.toNatClampNeg < mN M a := Nat.not_le.mp fun q => hin (Or.inr q)
  exact W.cald (v := .int (mI M a i.toNatClampNeg)) hx hb hc ((hK.2 0 _ rfl).1 _ _) (fun q => by cases q) (by rw [arrV_size]; exact hin) (by rw [arrV_read _ _ hlt]; rfl) rfl rfl hdg kk
theorem r_zald {a : Nat} {i : Int32} (hC : CX p s m args c cc o nL D cy b xo L xs) (hW : WR D cy b M H) (hk : mK M a = 16) (hin : vp_in i (mN M a)) (hdg : decode cc pc = .ok (.baload, 1))
    (kk : W p l e R s m args below meth c H locs cells slots Qf (F0 m (pc + 1) rl (.int (mI M a i.toNatClampNeg) :: st))) : W p l e R s m args below meth c H locs cells slots Qf (F0 m pc rl (.int i :: cv b xo (.ref a) :: st)) := by
  obtain ⟨hx, hb, hml, hown, hts, hK, hE, hbs⟩ := hC
  obtain ⟨ha, hc⟩ := hW.ar hk (by omega) (by omega)
  rw [cv_r ha]
  have hlt : i.toNatClampNeg < mN M a := Nat.not_le.mp fun q => hin (Or.inr q)
  exact W.zald (v := .int (mI M a i.toNatClampNeg)) hx hb hc ((hK.2 3 _ rfl).1 _ _) (fun q => by cases q) (by rw [arrV_size]; exact hin) (by rw [arrV_read _ _ hlt]; rfl) rfl rfl hdg kk
theorem r_lald {a : Nat} {i : Int32} (hC : CX p s m args c cc o nL D cy b xo L xs) (hW : WR D cy b M H) (hk : mK M a = 15) (hin : vp_in i (mN M a)) (hdg : decode cc pc = .ok (.laload, 1))
    (kk : W p l e R s m args below meth c H locs cells slots Qf (F0 m (pc + 1) rl (.long (mJ M a i.toNatClampNeg) :: st))) : W p l e R s m args below meth c H locs cells slots Qf (F0 m pc rl (.int i :: cv b xo (.ref a) :: st)) := by
  obtain ⟨hx, hb, hml, hown, hts, hK, hE, hbs⟩ := hC
  obtain ⟨ha, hc⟩ := hW.ar hk (by omega) (by omega)
  rw [cv_r ha]
  have hlt : i.toNatClampNeg < mN M a := Nat.not_le.mp fun q => hin (Or.inr q)
  exact W.lald (v := .long (mJ M a i.toNatClampNeg)) hx hb hc ((hK.2 2 _ rfl).1 _ _) (fun q => by cases q) (by rw [arrV_size]; exact hin) (by rw [arrV_read _ _ hlt]; rfl) rfl rfl hdg kk
theorem r_aaldF {a : Nat} {i : Int32} (hC : CX p s m args c cc o nL D cy b xo L xs) (hW : WR D cy b M H) (hk : mK M a = 17) (hin : vp_in i (mN M a)) (hdg : decode cc pc = .ok (.aaload, 1))
    (kk : W p l e R s m args below meth c H locs cells slots Qf (F0 m (pc + 1) rl (va_rf (ro b (mR M a i.toNatClampNeg)) :: st))) : W p l e R s m args below meth c H locs cells slots Qf (F0 m pc rl (.int i :: cv b xo (.ref a) :: st)) := by
  obtain ⟨hx, hb, hml, hown, hts, hK, hE, hbs⟩ := hC
  obtain ⟨ha, hc⟩ := hW.ar hk (by omega) (by omega)
  rw [cv_r ha]
  have hlt : i.toNatClampNeg < mN M a := Nat.not_le.mp fun q => hin (Or.inr q)
  exact W.aald (v := va_rf (ro b (mR M a i.toNatClampNeg))) hx hb hc ((hK.2 4 _ rfl).1 _ _) rfl (fun q => by cases q) (by rw [arrV_size]; exact hin) (by rw [arrV_read _ _ hlt]; rfl) rfl rfl hdg kk
theorem r_aaldS {a : Nat} {i : Int32} (hC : CX p s m args c cc o nL D cy b xo L xs) (hW : WR D cy b M H) (hk : mK M a = 18) (hin : vp_in i (mN M a)) (hdg : decode cc pc = .ok (.aaload, 1))
    (kk : W p l e R s m args below meth c H locs cells slots Qf (F0 m (pc + 1) rl (va_rf (ro b (mR M a i.toNatClampNeg)) :: st))) : W p l e R s m args below meth c H locs cells slots Qf (F0 m pc rl (.int i :: cv b xo (.ref a) :: st)) := by
  obtain ⟨hx, hb, hml, hown, hts, hK, hE, hbs⟩ := hC
  obtain ⟨ha, hc⟩ := hW.ar hk (by omega) (by omega)
  rw [cv_r ha]
  have hlt : i.toNatClampNeg < mN M a := Nat.not_le.mp fun q => hin (Or.inr q)
  exact W.aald (v := va_rf (ro b (mR M a i.toNatClampNeg))) hx hb hc ((hK.2 5 _ rfl).1 _ _) rfl (fun q => by cases q) (by rw [arrV_size]; exact hin) (by rw [arrV_read _ _ hlt]; rfl) rfl rfl hdg kk
theorem r_iast {a : Nat} {i : Int32} {v : Int32} (hC : CX p s m args c cc o nL D cy b xo L xs) (hW : WR D cy b M H) (hS : va_S (AA b) s.heap H locs) (hk : mK M a = 14) (hin : vp_in i (mN M a)) (hdg : decode cc pc = .ok (.iastore, 1))
    (kk : ∀ (H1 : Heap) (locs1 : List Loc), WR D cy b (sI M a i.toNatClampNeg v) H1 → va_S (AA b) s.heap H1 locs1 → W p l e R s m args below meth c H1 locs1 cells slots Qf (F0 m (pc + 1) rl st)) : W p l e R s m args below meth c H locs cells slots Qf (F0 m pc rl (.int v :: .int i :: cv b xo (.ref a) :: st)) := by
  obtain ⟨hx, hb, hml, hown, hts, hK, hE, hbs⟩ := hC
  obtain ⟨ha, hc⟩ := hW.ar hk (by omega) (by omega)
  rw [cv_r ha]
  refine W.iast hx hb hc ((hK.2 1 _ rfl).1 _ _) (fun q => by cases q) (by rw [arrV_size]; exact hin) rfl rfl hdg fun H1 e1 z oq => ?_
  rw [arrV_store] at e1
  exact kk H1 _ (q_I hW hk (by omega) (by omega) (by omega) z oq e1) (hS.put z oq (show b < b + a by omega))
theorem r_cast {a : Nat} {i : Int32} {v : Int32} (hC : CX p s m args c cc o nL D cy b xo L xs) (hW : WR D cy b M H) (hS : va_S (AA b) s.heap H locs) (hk : mK M a = 13) (hin : vp_in i (mN M a)) (hdg : decode cc pc = .ok (.castore, 1))
    (kk : ∀ (H1 : Heap) (locs1 : List Loc), WR D cy b (sI M a i.toNatClampNeg (vp_nar .char v)) H1 → va_S (AA b) s.heap H1 locs1 → W p l e R s m args below meth c H1 locs1 cells slots Qf (F0 m (pc + 1) rl st)) : W p l e R s m args below meth c H locs cells slots Qf (F0 m pc rl (.int v :: .int i :: cv b xo (.ref a) :: st)) := by
  obtain ⟨hx, hb, hml, hown, hts, hK, hE, hbs⟩ := hC
  obtain ⟨ha, hc⟩ := hW.ar hk (by omega) (by omega)
  rw [cv_r ha]
  refine W.cast hx hb hc ((hK.2 0 _ rfl).1 _ _) (fun q => by cases q) (by rw [arrV_size]; exact hin) rfl rfl hdg fun H1 e1 z oq => ?_
  rw [arrV_store] at e1
  exact kk H1 _ (q_I hW hk (by omega) (by omega) (by omega) z oq e1) (hS.put z oq (show b < b + a by omega))
theorem r_zast {a : Nat} {i : Int32} {v : Int32} (hC : CX p s m args c cc o nL D cy b xo L xs) (hW : WR D cy b M H) (hS : va_S (AA b) s.heap H locs) (hk : mK M a = 16) (hin : vp_in i (mN M a)) (hdg : decode cc pc = .ok (.bastore, 1))
    (kk : ∀ (H1 : Heap) (locs1 : List Loc), WR D cy b (sI M a i.toNatClampNeg (vp_nar .boolean v)) H1 → va_S (AA b) s.heap H1 locs1 → W p l e R s m args below meth c H1 locs1 cells slots Qf (F0 m (pc + 1) rl st)) : W p l e R s m args below meth c H locs cells slots Qf (F0 m pc rl (.int v :: .int i :: cv b xo (.ref a) :: st)) := by
  obtain ⟨hx, hb, hml, hown, hts, hK, hE, hbs⟩ := hC
  obtain ⟨ha, hc⟩ := hW.ar hk (by omega) (by omega)
  rw [cv_r ha]
  refine W.zast hx hb hc ((hK.2 3 _ rfl).1 _ _) (fun q => by cases q) (by rw [arrV_size]; exact hin) rfl rfl hdg fun H1 e1 z oq => ?_
  rw [arrV_store] at e1
  exact kk H1 _ (q_I hW hk (by omega) (by omega) (by omega) z oq e1) (hS.put z oq (show b < b + a by omega))
theorem r_last {a : Nat} {i : Int32} {v : Int64} (hC : CX p s m args c cc o nL D cy b xo L xs) (hW : WR D cy b M H) (hS : va_S (AA b) s.heap H locs) (hk : mK M a = 15) (hin : vp_in i (mN M a)) (hdg : decode cc pc = .ok (.lastore, 1))
    (kk : ∀ (H1 : Heap) (locs1 : List Loc), WR D cy b (sJ M a i.toNatClampNeg v) H1 → va_S (AA b) s.heap H1 locs1 → W p l e R s m args below meth c H1 locs1 cells slots Qf (F0 m (pc + 1) rl st)) : W p l e R s m args below meth c H locs cells slots Qf (F0 m pc rl (.long v :: .int i :: cv b xo (.ref a) :: st)) := by
  obtain ⟨hx, hb, hml, hown, hts, hK, hE, hbs⟩ := hC
  obtain ⟨ha, hc⟩ := hW.ar hk (by omega) (by omega)
  rw [cv_r ha]
  refine W.last hx hb hc ((hK.2 2 _ rfl).1 _ _) (fun q => by cases q) (by rw [arrV_size]; exact hin) rfl rfl hdg fun H1 e1 z oq => ?_
  rw [arrV_store] at e1
  exact kk H1 _ (q_J hW hk z oq e1) (hS.put z oq (show b < b + a by omega))
theorem r_aastF {a v : Nat} {i : Int32} (hC : CX p s m args c cc o nL D cy b xo L xs) (hW : WR D cy b M H) (hS : va_S (AA b) s.heap H locs) (hk : mK M a = 17) (hv : mK M v = 0) (hin : vp_in i (mN M a)) (hdg : decode cc pc = .ok (.aastore, 1))
    (kk : ∀ (H1 : Heap) (locs1 : List Loc), WR D cy b (sR M a i.toNatClampNeg v) H1 → va_S (AA b) s.heap H1 locs1 → W p l e R s m args below meth c H1 locs1 cells slots Qf (F0 m (pc + 1) rl st)) : W p l e R s m args below meth c H locs cells slots Qf (F0 m pc rl (cv b xo (.ref v) :: .int i :: cv b xo (.ref a) :: st)) := by
  obtain ⟨hx, hb, hml, hown, hts, hK, hE, hbs⟩ := hC
  obtain ⟨ha, hc⟩ := hW.ar hk (by omega) (by omega)
  obtain ⟨hv0, cellV, g1, g2, g3, -⟩ := hW.ob hv (by omega)
  rw [cv_r ha, cv_r hv0]
  have hlt : i.toNatClampNeg < mN M a := Nat.not_le.mp fun q => hin (Or.inr q)
  have h0 : ¬ i < 0 := fun q => hin (Or.inl q)
  have hcls := (hK.1 0 _ (cL_at 0 (by omega))).2
  obtain ⟨kA, comp, k1, k2, k3, -⟩ := (hK.2 4 _ rfl).2
  have hcomp : comp = D.1 0 := Option.some.inj (k3.symm.trans hcls.1)
  subst hcomp
  obtain ⟨kC, hkC, -⟩ := hcls.2
  refine W.aast hx hb hc (fun q h => by cases h) (fun h => by cases h) k1 k2 rfl hkC ⟨h0, by rw [arrV_size]; exact hlt⟩ g1 (fun q h => by rw [g3] at h; cases h) (by rw [g2]; exact hkC) (by rw [g2]; exact va_assign hcls) rfl rfl hdg fun H1 e1 z oq => ?_
  rw [arrV_store] at e1
  refine kk H1 _ (q_R hW hk (by omega) z oq ?_) (hS.put z oq (show b < b + a by omega))
  rw [e1]
  congr 3
  unfold ro
  rw [if_neg hv0]
  rfl
theorem r_aastS {a v : Nat} {i : Int32} (hC : CX p s m args c cc o nL D cy b xo L xs) (hW : WR D cy b M H) (hS : va_S (AA b) s.heap H locs) (hk : mK M a = 18) (hv : mK M v = 9) (hin : vp_in i (mN M a)) (hdg : decode cc pc = .ok (.aastore, 1))
    (kk : ∀ (H1 : Heap) (locs1 : List Loc), WR D cy b (sR M a i.toNatClampNeg v) H1 → va_S (AA b) s.heap H1 locs1 → W p l e R s m args below meth c H1 locs1 cells slots Qf (F0 m (pc + 1) rl st)) : W p l e R s m args below meth c H locs cells slots Qf (F0 m pc rl (cv b xo (.ref v) :: .int i :: cv b xo (.ref a) :: st)) := by
  obtain ⟨hx, hb, hml, hown, hts, hK, hE, hbs⟩ := hC
  obtain ⟨ha, hc⟩ := hW.ar hk (by omega) (by omega)
  obtain ⟨hv0, cellV, g1, g2, g3, -⟩ := hW.ob hv (by omega)
  rw [cv_r ha, cv_r hv0]
  have hlt : i.toNatClampNeg < mN M a := Nat.not_le.mp fun q => hin (Or.inr q)
  have h0 : ¬ i < 0 := fun q => hin (Or.inl q)
  have hcls := (hK.1 9 _ (cL_at 9 (by omega))).2
  obtain ⟨kA, comp, k1, k2, k3, -⟩ := (hK.2 5 _ rfl).2
  have hcomp : comp = D.1 9 := Option.some.inj (k3.symm.trans hcls.1)
  subst hcomp
  obtain ⟨kC, hkC, -⟩ := hcls.2
  refine W.aast hx hb hc (fun q h => by cases h) (fun h => by cases h) k1 k2 rfl hkC ⟨h0, by rw [arrV_size]; exact hlt⟩ g1 (fun q h => by rw [g3] at h; cases h) (by rw [g2]; exact hkC) (by rw [g2]; exact va_assign hcls) rfl rfl hdg fun H1 e1 z oq => ?_
  rw [arrV_store] at e1
  refine kk H1 _ (q_R hW hk (by omega) z oq ?_) (hS.put z oq (show b < b + a by omega))
  rw [e1]
  congr 3
  unfold ro
  rw [if_neg hv0]
  rfl
theorem TO_all : ∀ k, k < 13 → ∃ q ∈ TO, q.1 = k := by decide +kernel
theorem TO_in {k : Nat} (h : k < 13) : Cond.instantiable (on k) (ftT k).length ∈ gT := by
  obtain ⟨q, hq, rfl⟩ := TO_all k h
  exact TO_ok q hq
theorem IO_all : ∀ k, k < 20 → ∃ q ∈ IO0, q.1 = k := by decide +kernel
theorem IO_in {k : Nat} (h : k < 20) : Cond.initialized (on k) ∈ gT := by
  obtain ⟨q, hq, rfl⟩ := IO_all k h
  exact IO0_ok q hq
theorem nw_K {kd n w : Nat} : mK (nw M kd n w) (mS M) = kd := by show (if mS M = mS M then kd else M.1 (mS M)) = kd; rw [if_pos rfl]
theorem nw_N {kd n w : Nat} : mN (nw M kd n w) (mS M) = n := by show (if mS M = mS M then n else M.2.1 (mS M)) = n; rw [if_pos rfl]
theorem nw_I {kd n w : Nat} : mI (nw M kd n w) (mS M) = fun _ => 0 := by show (if mS M = mS M then (fun _ => 0) else M.2.2.1 (mS M)) = _; rw [if_pos rfl]
theorem nw_J {kd n w : Nat} : mJ (nw M kd n w) (mS M) = fun _ => 0 := by show (if mS M = mS M then (fun _ => 0) else M.2.2.2.1 (mS M)) = _; rw [if_pos rfl]
theorem nw_R {kd n w : Nat} : mR (nw M kd n w) (mS M) = fun _ => 0 := by show (if mS M = mS M then (fun _ => 0) else M.2.2.2.2.1 (mS M)) = _; rw [if_pos rfl]
theorem fv_new {n w : Nat} (hn : n < 13) (j : Nat) (hj : j < (ftT n).length) : defaultValue (cY n j) = fv b (nw M n 0 w) n (mS M) j := by
  unfold fv
  rw [nw_I, nw_J, nw_R]
  rcases cL_ft n hn j hj with ⟨h1, h2⟩ | ⟨h1, h2⟩ | ⟨h1, h2⟩ | ⟨h1, h2⟩
  · rw [h1, h2]; rfl
  · rw [h1, h2]; rfl
  · rw [h1]
    cases hy : cY n j <;> first | rfl | (rw [hy] at h2; cases h2)
  · rw [h1, h2]; rfl
theorem SS_new {H1 : Heap} (hS : va_S (AA b) s.heap H locs) (z1 : H1.size = H.size + 1) (o1 : ∀ q, q < H.size → H1[q]? = H[q]?) : va_S (AA b) s.heap H1 locs := ⟨Nat.le_trans hS.1 (by omega), fun x h1 h2 => (o1 x (Nat.lt_of_lt_of_le h1 hS.1)).trans (hS.2.1 x h1 h2), hS.2.2⟩
theorem r_new {n x : Nat} (hC : CX p s m args c cc o nL D cy b xo L xs) (hW : WR D cy b M H) (hS : va_S (AA b) s.heap H locs) (hn : n < 13) (hl : Cond.classLink (on o) x (on n) ∈ gT) (hcells : cells + 1 ≤ R.cells) (hslots : slots + (ftT n).length ≤ R.slots) (hdg : decode cc pc = .ok (.new x, 3))
    (kk : ∀ H1 : Heap, WR D cy b (nw M n 0 (ftT n).length) H1 → va_S (AA b) s.heap H1 locs → W p l e R s m args below meth c H1 locs (cells + 1) (slots + (ftT n).length) Qf (F0 m (pc + 3) rl (cv b xo (.ref (mS M)) :: st))) : W p l e R s m args below meth c H locs cells slots Qf (F0 m pc rl st) := by
  obtain ⟨hx, hb, hml, hown, hts, hK, hE, hbs⟩ := hC
  have hKn := hK.1 n _ (cL_at n hn)
  have hsz := hW.1
  have hp : 0 < mS M := by have := hS.1; omega
  have e2 : cv b xo (.ref (mS M)) = .ref H.size := by rw [cv_r (by omega), hsz]
  rw [e2] at kk
  refine W.newcK hx hb hown (hts _ hl) (hts _ (TO_in hn)) (hts _ (IO_in (by omega))) rfl hdg hcells hslots hKn.2.1 rfl fun H1 kC hkC e1 z1 o1 => ?_
  refine kk H1 (WR_new hW hp z1 o1 (cok_ob nw_K hn ?_)) (SS_new hS z1 o1)
  exact (u_born (cY n) hts (cL_ws hn) hKn hkC (by rw [← hsz]; exact e1) (cL_ty n hn)).to (fv_new hn)
theorem r_newa_char {n : Int32} (hC : CX p s m args c cc o nL D cy b xo L xs) (hW : WR D cy b M H) (hS : va_S (AA b) s.heap H locs) (hn : ¬ n < 0) (hN : n.toNatClampNeg ≤ 65536) (hcells : cells + 1 ≤ R.cells) (hslots : slots + n.toNatClampNeg ≤ R.slots) (hdg : decode cc pc = .ok (.newarray .char, 2))
    (kk : ∀ H1 : Heap, WR D cy b (nw M 13 n.toNatClampNeg n.toNatClampNeg) H1 → va_S (AA b) s.heap H1 locs → W p l e R s m args below meth c H1 locs (cells + 1) (slots + n.toNatClampNeg) Qf (F0 m (pc + 2) rl (cv b xo (.ref (mS M)) :: st))) : W p l e R s m args below meth c H locs cells slots Qf (F0 m pc rl (.int n :: st)) := by
  obtain ⟨hx, hb, hml, hown, hts, hK, hE, hbs⟩ := hC
  have hsz := hW.1
  have hp : 0 < mS M := by have := hS.1; omega
  have e2 : cv b xo (.ref (mS M)) = .ref H.size := by rw [cv_r (by omega), hsz]
  rw [e2] at kk
  refine va_newaK hx hb (atype := .char) (hts _ (AR_ok (.char, _) (List.mem_of_getElem? (i := 0) rfl))) rfl hdg rfl hn rfl (by show _ * 2 ≤ _; omega) hcells hslots rfl fun H1 cA e1 z1 o1 hAr hNm => ?_
  have hcA : cA = cy 13 := Option.some.inj (hNm.symm.trans (hK.2 0 _ rfl).2)
  subst hcA
  refine kk H1 (WR_new hW hp z1 o1 (cok_ar nw_K (by omega) ?_)) (SS_new hS z1 o1)
  rw [← hsz, e1, nw_N]
  congr 2
  funext j
  unfold av
  rw [nw_I, nw_J]
  rfl
theorem r_newa_int {n : Int32} (hC : CX p s m args c cc o nL D cy b xo L xs) (hW : WR D cy b M H) (hS : va_S (AA b) s.heap H locs) (hn : ¬ n < 0) (hN : n.toNatClampNeg ≤ 65536) (hcells : cells + 1 ≤ R.cells) (hslots : slots + n.toNatClampNeg ≤ R.slots) (hdg : decode cc pc = .ok (.newarray .int, 2))
    (kk : ∀ H1 : Heap, WR D cy b (nw M 14 n.toNatClampNeg n.toNatClampNeg) H1 → va_S (AA b) s.heap H1 locs → W p l e R s m args below meth c H1 locs (cells + 1) (slots + n.toNatClampNeg) Qf (F0 m (pc + 2) rl (cv b xo (.ref (mS M)) :: st))) : W p l e R s m args below meth c H locs cells slots Qf (F0 m pc rl (.int n :: st)) := by
  obtain ⟨hx, hb, hml, hown, hts, hK, hE, hbs⟩ := hC
  have hsz := hW.1
  have hp : 0 < mS M := by have := hS.1; omega
  have e2 : cv b xo (.ref (mS M)) = .ref H.size := by rw [cv_r (by omega), hsz]
  rw [e2] at kk
  refine va_newaK hx hb (atype := .int) (hts _ (AR_ok (.int, _) (List.mem_of_getElem? (i := 1) rfl))) rfl hdg rfl hn rfl (by show _ * 4 ≤ _; omega) hcells hslots rfl fun H1 cA e1 z1 o1 hAr hNm => ?_
  have hcA : cA = cy 14 := Option.some.inj (hNm.symm.trans (hK.2 1 _ rfl).2)
  subst hcA
  refine kk H1 (WR_new hW hp z1 o1 (cok_ar nw_K (by omega) ?_)) (SS_new hS z1 o1)
  rw [← hsz, e1, nw_N]
  congr 2
  funext j
  unfold av
  rw [nw_I, nw_J]
  rfl
theorem r_newa_long {n : Int32} (hC : CX p s m args c cc o nL D cy b xo L xs) (hW : WR D cy b M H) (hS : va_S (AA b) s.heap H locs) (hn : ¬ n < 0) (hN : n.toNatClampNeg ≤ 65536) (hcells : cells + 1 ≤ R.cells) (hslots : slots + n.toNatClampNeg ≤ R.slots) (hdg : decode cc pc = .ok (.newarray .long, 2))
    (kk : ∀ H1 : Heap, WR D cy b (nw M 15 n.toNatClampNeg n.toNatClampNeg) H1 → va_S (AA b) s.heap H1 locs → W p l e R s m args below meth c H1 locs (cells + 1) (slots + n.toNatClampNeg) Qf (F0 m (pc + 2) rl (cv b xo (.ref (mS M)) :: st))) : W p l e R s m args below meth c H locs cells slots Qf (F0 m pc rl (.int n :: st)) := by
  obtain ⟨hx, hb, hml, hown, hts, hK, hE, hbs⟩ := hC
  have hsz := hW.1
  have hp : 0 < mS M := by have := hS.1; omega
  have e2 : cv b xo (.ref (mS M)) = .ref H.size := by rw [cv_r (by omega), hsz]
  rw [e2] at kk
  refine va_newaK hx hb (atype := .long) (hts _ (AR_ok (.long, _) (List.mem_of_getElem? (i := 2) rfl))) rfl hdg rfl hn rfl (by show _ * 8 ≤ _; omega) hcells hslots rfl fun H1 cA e1 z1 o1 hAr hNm => ?_
  have hcA : cA = cy 15 := Option.some.inj (hNm.symm.trans (hK.2 2 _ rfl).2)
  subst hcA
  refine kk H1 (WR_new hW hp z1 o1 (cok_ar nw_K (by omega) ?_)) (SS_new hS z1 o1)
  rw [← hsz, e1, nw_N]
  congr 2
  funext j
  unfold av
  rw [nw_I, nw_J]
  rfl
theorem r_newa_boolean {n : Int32} (hC : CX p s m args c cc o nL D cy b xo L xs) (hW : WR D cy b M H) (hS : va_S (AA b) s.heap H locs) (hn : ¬ n < 0) (hN : n.toNatClampNeg ≤ 65536) (hcells : cells + 1 ≤ R.cells) (hslots : slots + n.toNatClampNeg ≤ R.slots) (hdg : decode cc pc = .ok (.newarray .boolean, 2))
    (kk : ∀ H1 : Heap, WR D cy b (nw M 16 n.toNatClampNeg n.toNatClampNeg) H1 → va_S (AA b) s.heap H1 locs → W p l e R s m args below meth c H1 locs (cells + 1) (slots + n.toNatClampNeg) Qf (F0 m (pc + 2) rl (cv b xo (.ref (mS M)) :: st))) : W p l e R s m args below meth c H locs cells slots Qf (F0 m pc rl (.int n :: st)) := by
  obtain ⟨hx, hb, hml, hown, hts, hK, hE, hbs⟩ := hC
  have hsz := hW.1
  have hp : 0 < mS M := by have := hS.1; omega
  have e2 : cv b xo (.ref (mS M)) = .ref H.size := by rw [cv_r (by omega), hsz]
  rw [e2] at kk
  refine va_newaK hx hb (atype := .boolean) (hts _ (AR_ok (.boolean, _) (List.mem_of_getElem? (i := 3) rfl))) rfl hdg rfl hn rfl (by show _ * 1 ≤ _; omega) hcells hslots rfl fun H1 cA e1 z1 o1 hAr hNm => ?_
  have hcA : cA = cy 16 := Option.some.inj (hNm.symm.trans (hK.2 3 _ rfl).2)
  subst hcA
  refine kk H1 (WR_new hW hp z1 o1 (cok_ar nw_K (by omega) ?_)) (SS_new hS z1 o1)
  rw [← hsz, e1, nw_N]
  congr 2
  funext j
  unfold av
  rw [nw_I, nw_J]
  rfl
theorem r_anewF {n : Int32} {x : Nat} (hC : CX p s m args c cc o nL D cy b xo L xs) (hW : WR D cy b M H) (hS : va_S (AA b) s.heap H locs) (hl : Cond.classLink (on o) x "ShoeOrchard$Felt" ∈ gT) (hn : ¬ n < 0) (hN : n.toNatClampNeg ≤ 65536) (hcells : cells + 1 ≤ R.cells) (hslots : slots + n.toNatClampNeg ≤ R.slots) (hdg : decode cc pc = .ok (.anewarray x, 3))
    (kk : ∀ H1 : Heap, WR D cy b (nw M 17 n.toNatClampNeg n.toNatClampNeg) H1 → va_S (AA b) s.heap H1 locs → W p l e R s m args below meth c H1 locs (cells + 1) (slots + n.toNatClampNeg) Qf (F0 m (pc + 3) rl (cv b xo (.ref (mS M)) :: st))) : W p l e R s m args below meth c H locs cells slots Qf (F0 m pc rl (.int n :: st)) := by
  obtain ⟨hx, hb, hml, hown, hts, hK, hE, hbs⟩ := hC
  have hsz := hW.1
  have hp : 0 < mS M := by have := hS.1; omega
  have e2 : cv b xo (.ref (mS M)) = .ref H.size := by rw [cv_r (by omega), hsz]
  rw [e2] at kk
  refine W.anew hx hb hown (hts _ hl) (va_AO.use hE.2.2.1.1) rfl hdg rfl hn (by omega) hcells hslots fun cA kA comp f1 f2 f3 f4 => ?_
  obtain ⟨kA', comp', g1, g2, g3, g4⟩ := (hK.2 4 _ rfl).2
  have hcA : cA = cy 17 := Option.some.inj (f1.symm.trans g4)
  subst hcA
  rw [arrV_new]
  refine kk _ (WR_new hW hp (by simp) (fun q hq => by rw [Array.getElem?_push, if_neg (Nat.ne_of_lt hq)]) (cok_ar nw_K (by omega) ?_)) (SS_new hS (by simp) (fun q hq => by rw [Array.getElem?_push, if_neg (Nat.ne_of_lt hq)]))
  rw [← hsz, Array.getElem?_push_size, nw_N]
  congr 2
  funext j
  unfold av
  rw [nw_R]
  rfl
theorem r_anewS {n : Int32} {x : Nat} (hC : CX p s m args c cc o nL D cy b xo L xs) (hW : WR D cy b M H) (hS : va_S (AA b) s.heap H locs) (hl : Cond.classLink (on o) x "ShoeOrchard$State" ∈ gT) (hn : ¬ n < 0) (hN : n.toNatClampNeg ≤ 65536) (hcells : cells + 1 ≤ R.cells) (hslots : slots + n.toNatClampNeg ≤ R.slots) (hdg : decode cc pc = .ok (.anewarray x, 3))
    (kk : ∀ H1 : Heap, WR D cy b (nw M 18 n.toNatClampNeg n.toNatClampNeg) H1 → va_S (AA b) s.heap H1 locs → W p l e R s m args below meth c H1 locs (cells + 1) (slots + n.toNatClampNeg) Qf (F0 m (pc + 3) rl (cv b xo (.ref (mS M)) :: st))) : W p l e R s m args below meth c H locs cells slots Qf (F0 m pc rl (.int n :: st)) := by
  obtain ⟨hx, hb, hml, hown, hts, hK, hE, hbs⟩ := hC
  have hsz := hW.1
  have hp : 0 < mS M := by have := hS.1; omega
  have e2 : cv b xo (.ref (mS M)) = .ref H.size := by rw [cv_r (by omega), hsz]
  rw [e2] at kk
  refine W.anew hx hb hown (hts _ hl) (va_AO.use hE.2.2.1.2) rfl hdg rfl hn (by omega) hcells hslots fun cA kA comp f1 f2 f3 f4 => ?_
  obtain ⟨kA', comp', g1, g2, g3, g4⟩ := (hK.2 5 _ rfl).2
  have hcA : cA = cy 18 := Option.some.inj (f1.symm.trans g4)
  subst hcA
  rw [arrV_new]
  refine kk _ (WR_new hW hp (by simp) (fun q hq => by rw [Array.getElem?_push, if_neg (Nat.ne_of_lt hq)]) (cok_ar nw_K (by omega) ?_)) (SS_new hS (by simp) (fun q hq => by rw [Array.getElem?_push, if_neg (Nat.ne_of_lt hq)]))
  rw [← hsz, Array.getElem?_push_size, nw_N]
  congr 2
  funext j
  unfold av
  rw [nw_R]
  rfl
/-- what stands outside -/
theorem r_xint {n : Nat} {i : Int32} (hC : CX p s m args c cc o nL D cy b xo L xs) (hS : va_S (AA b) s.heap H locs) (hn : n = 300 ∨ n = 200 ∨ n = 201) (hin : vp_in i (xlen L n)) (hdg : decode cc pc = .ok (.iaload, 1))
    (kk : W p l e R s m args below meth c H locs cells slots Qf (F0 m (pc + 1) rl (.int (xrow xs n i.toNatClampNeg) :: st))) : W p l e R s m args below meth c H locs cells slots Qf (F0 m pc rl (.int i :: cv b xo (.retAddr n) :: st)) := by
  obtain ⟨hx, hb, hml, hown, hts, hK, ⟨-, -, -, -, -, -, -, h8, h9, h10⟩, hbs⟩ := hC
  have hlt : i.toNatClampNeg < xlen L n := Nat.not_le.mp fun q => hin (Or.inr q)
  have h0 : ¬ i < 0 := fun q => hin (Or.inl q)
  rw [cv_x (h10 n (by omega))]
  rcases hn with rfl | hn
  · obtain ⟨⟨scr, e1, e2, e3, e4, e5⟩, f1, f2⟩ := h9
    refine W.iald (v := .int (xrow xs 300 i.toNatClampNeg)) hx hb (by rw [hS.2.1 _ f1 f2]; exact e1) e2 e3 (by rw [e4]; exact hin) ?_ rfl rfl hdg kk
    exact e5 _ hlt
  · obtain ⟨cell, e1, e2, e3, e4, e5, e6, e7⟩ := (h8 n hn).kept hS.2.1
    have h4 : xlen L n = 4 := by rcases hn with rfl | rfl <;> rfl
    rw [h4] at hlt
    exact W.iald (v := .int (xrow xs n i.toNatClampNeg)) hx hb e1 e2 e3 (fun z => by rcases z with z | z; exact h0 z; omega) (e6 _ hlt) rfl rfl hdg kk
theorem r_xlen (hC : CX p s m args c cc o nL D cy b xo L xs) (hS : va_S (AA b) s.heap H locs) (hdg : decode cc pc = .ok (.arraylength, 1))
    (kk : W p l e R s m args below meth c H locs cells slots Qf (F0 m (pc + 1) rl (.int (Int32.ofNat L) :: st))) : W p l e R s m args below meth c H locs cells slots Qf (F0 m pc rl (cv b xo (.retAddr 300) :: st)) := by
  obtain ⟨hx, hb, hml, hown, hts, hK, ⟨-, -, -, -, -, -, -, h8, h9, h10⟩, hbs⟩ := hC
  rw [cv_x (h10 300 (by omega))]
  obtain ⟨⟨scr, e1, e2, e3, e4, e5⟩, f1, f2⟩ := h9
  exact W.alen hx hb (by rw [hS.2.1 _ f1 f2]; exact e1) e2 (by rw [e4]) rfl rfl hdg kk
theorem r_blen {n : Nat} (hC : CX p s m args c cc o nL D cy b xo L xs) (hS : va_S (AA b) s.heap H locs) (hn : 100 ≤ n ∧ n < 115) (hdg : decode cc pc = .ok (.arraylength, 1))
    (kk : W p l e R s m args below meth c H locs cells slots Qf (F0 m (pc + 1) rl (.int (Int32.ofNat (tN (n - 100))) :: st))) : W p l e R s m args below meth c H locs cells slots Qf (F0 m pc rl (cv b xo (.retAddr n) :: st)) := by
  obtain ⟨hx, hb, hml, hown, hts, hK, ⟨-, -, -, -, h5, -, -, h8, h9, h10⟩, hbs⟩ := hC
  rw [cv_x (h10 n (by omega))]
  obtain ⟨cell, e1, e2, e3, e4, e5, e6, e7⟩ := (h5.1 (n - 100) (by omega)).2.2.2.kept hS.2.1
  have hx2 : 100 + (n - 100) = n := by omega
  have e1 : H[xa0 xo (100 + (n - 100))]? = some cell := e1
  rw [hx2] at e1
  exact W.alen hx hb e1 e2 e5 rfl rfl hdg kk
theorem r_bald {n : Nat} {i : Int32} (hC : CX p s m args c cc o nL D cy b xo L xs) (hS : va_S (AA b) s.heap H locs) (hn : 100 ≤ n ∧ n < 115) (hin : vp_in i (tN (n - 100))) (hdg : decode cc pc = .ok (.baload, 1))
    (kk : W p l e R s m args below meth c H locs cells slots Qf (F0 m (pc + 1) rl (.int (tB (n - 100) i.toNatClampNeg) :: st))) : W p l e R s m args below meth c H locs cells slots Qf (F0 m pc rl (.int i :: cv b xo (.retAddr n) :: st)) := by
  obtain ⟨hx, hb, hml, hown, hts, hK, ⟨-, -, -, -, h5, -, -, h8, h9, h10⟩, hbs⟩ := hC
  have hlt : i.toNatClampNeg < tN (n - 100) := Nat.not_le.mp fun q => hin (Or.inr q)
  have h0 : ¬ i < 0 := fun q => hin (Or.inl q)
  rw [cv_x (h10 n (by omega))]
  obtain ⟨cell, e1, e2, e3, e4, e5, e6, e7⟩ := (h5.1 (n - 100) (by omega)).2.2.2.kept hS.2.1
  have hx2 : 100 + (n - 100) = n := by omega
  have e1 : H[xa0 xo (100 + (n - 100))]? = some cell := e1
  rw [hx2] at e1
  exact W.bald (v := .int (tB (n - 100) i.toNatClampNeg)) hx hb e1 e2 e3 (fun z => by rcases z with z | z; exact h0 z; exact absurd (Nat.lt_of_lt_of_le hlt e4) (Nat.not_lt.mpr z)) (e6 _ hlt) rfl rfl hdg kk
theorem r_xval {i x : Nat} (hC : CX p s m args c cc o nL D cy b xo L xs) (hS : va_S (AA b) s.heap H locs) (hi : i < 15) (hl : Cond.fieldLink (on o) x "java/lang/String" "value" "[B" ∈ gT) (hdg : decode cc pc = .ok (.getfield x, 3))
    (kk : W p l e R s m args below meth c H locs cells slots Qf (F0 m (pc + 3) rl (cv b xo (.retAddr (100 + i)) :: st))) : W p l e R s m args below meth c H locs cells slots Qf (F0 m pc rl (cv b xo (.retAddr i) :: st)) := by
  obtain ⟨hx, hb, hml, hown, hts, hK, ⟨-, -, -, -, h5, -, -, h8, h9, h10⟩, hbs⟩ := hC
  rw [cv_x (h10 (100 + i) (by omega))] at kk
  rw [cv_x (h10 i (by omega))]
  exact vk_getf hx hb (h5.1 i hi).2.2.1 hS hown (hts _ hl) (fun _ h => h) hdg kk
theorem r_xcod {i x : Nat} (hC : CX p s m args c cc o nL D cy b xo L xs) (hS : va_S (AA b) s.heap H locs) (hi : i < 15) (hl : Cond.fieldLink (on o) x "java/lang/String" "coder" "B" ∈ gT) (hdg : decode cc pc = .ok (.getfield x, 3))
    (kk : W p l e R s m args below meth c H locs cells slots Qf (F0 m (pc + 3) rl (.int 0 :: st))) : W p l e R s m args below meth c H locs cells slots Qf (F0 m pc rl (cv b xo (.retAddr i) :: st)) := by
  obtain ⟨hx, hb, hml, hown, hts, hK, ⟨-, -, -, -, h5, -, -, h8, h9, h10⟩, hbs⟩ := hC
  rw [cv_x (h10 i (by omega))]
  exact vk_getf hx hb (h5.1 i hi).2.1 hS hown (hts _ hl) (fun _ h => h) hdg kk
theorem r_gets {n x : Nat} {v : Value} (hC : CX p s m args c cc o nL D cy b xo L xs) (hS : va_S (AA b) s.heap H locs) (hZ : va_Z (gs n).1 (gs n).2.1 (gs n).2.2 v (AA b) s s.heap) (hl : (∃ q ∈ GS, q.1 = (o, x, n)) ∨ ∃ q ∈ GN, q.1 = (o, x, n)) (hdg : decode cc pc = .ok (.getstatic x, 3))
    (kk : W p l e R s m args below meth c H locs cells slots Qf (F0 m (pc + 3) rl (v :: st))) : W p l e R s m args below meth c H locs cells slots Qf (F0 m pc rl st) := by
  obtain ⟨hx, hb, hml, hown, hts, hK, ⟨-, h2, -⟩, hbs⟩ := hC
  rcases hl with ⟨q, hq, e1⟩ | ⟨q, hq, e1⟩
  · have h := GS_ok q hq
    rw [e1] at h
    exact va_gets hx hb hZ hS hown (hts _ h) (fun _ h => h) hdg kk
  · have h := h2 q hq
    rw [e1] at h
    exact va_getsN hx hb hZ hS hown (va_Nw.use rfl h) (fun _ h => h) hdg kk
theorem r_str {n x : Nat} (hC : CX p s m args c cc o nL D cy b xo L xs) (hn : n < 15) (hl : ∃ q ∈ SK, q.1 = (o, x, n)) (hdg : decode cc pc = .ok (.ldc x, 2))
    (kk : W p l e R s m args below meth c H locs cells slots Qf (F0 m (pc + 2) rl (cv b xo (.retAddr n) :: st))) : W p l e R s m args below meth c H locs cells slots Qf (F0 m pc rl st) := by
  obtain ⟨hx, hb, hml, hown, hts, hK, ⟨-, -, -, h4, -, -, -, -, -, h10⟩, hbs⟩ := hC
  obtain ⟨q, hq, e1⟩ := hl
  have h := h4 q hq
  rw [e1] at h
  rw [cv_x (h10 n (by omega))] at kk
  exact va_ldcS hx hb hown h hdg kk
theorem r_alen {a : Nat} (hC : CX p s m args c cc o nL D cy b xo L xs) (hW : WR D cy b M H) (hk : 13 ≤ mK M a ∧ mK M a < 19) (hdg : decode cc pc = .ok (.arraylength, 1))
    (kk : W p l e R s m args below meth c H locs cells slots Qf (F0 m (pc + 1) rl (.int (Int32.ofNat (mN M a)) :: st))) : W p l e R s m args below meth c H locs cells slots Qf (F0 m pc rl (cv b xo (.ref a) :: st)) := by
  obtain ⟨hx, hb, hml, hown, hts, hK, hE, hbs⟩ := hC
  obtain ⟨ha, hc⟩ := hW.ar (ci := mK M a) rfl (by omega) hk.2
  rw [cv_r ha]
  have hcase : mK M a = 13 ∨ mK M a = 14 ∨ mK M a = 15 ∨ mK M a = 16 ∨ mK M a = 17 ∨ mK M a = 18 := by omega
  rcases hcase with h | h | h | h | h | h <;> rw [h] at hc
  · exact W.alen hx hb hc ((hK.2 0 _ rfl).1 _ _) (by rw [arrV_size]) rfl rfl hdg kk
  · exact W.alen hx hb hc ((hK.2 1 _ rfl).1 _ _) (by rw [arrV_size]) rfl rfl hdg kk
  · exact W.alen hx hb hc ((hK.2 2 _ rfl).1 _ _) (by rw [arrV_size]) rfl rfl hdg kk
  · exact W.alen hx hb hc ((hK.2 3 _ rfl).1 _ _) (by rw [arrV_size]) rfl rfl hdg kk
  · exact W.alen hx hb hc ((hK.2 4 _ rfl).1 _ _) (by rw [arrV_size]) rfl rfl hdg kk
  · exact W.alen hx hb hc ((hK.2 5 _ rfl).1 _ _) (by rw [arrV_size]) rfl rfl hdg kk
end
