/-! the law's own rests: its contract, its call -/
section
variable {l : Launch} {D : va_G} {cy : Nat → ClassId} {b : Nat} {xo : Nat → Option Nat} {L : Nat} {xs : Nat → Int32} {M M1 : mm_M} {mc ms : Nat} {p1 p2 p3 p4 : Int32} {r : Option Value}
theorem met291 (hl : l.stackTraces = false) (hk1 : mK M 1 = 11) (hk9 : mK M 269 = 15) (hn9 : mN M 269 = 1) (hk : mK M 55 = 18) (hn : mN M 55 = 16)
    (hs : ∀ v, restF p1 p2 p3 p4 = some v → mc = 0 ∧ ms = 0 ∧ r = some (.int 0) ∧ M1 = sJ M 269 0 v.toInt64) (hnn : restF p1 p2 p3 p4 = none → mc = 1 ∧ ms = 6 ∧ r = some (.int 1) ∧ M1 = bmp M) :
    Met l yLr wX (rmY mc ms) (PcX D cy b xo L xs [.ref 1, .int p1, .int p2, .int p3, .int p4, .ref 269] M) (QcJ D cy b xo r M1) mc ms (AA b) := by
  refine Met_ofH (cc := method_3_code) (maxL := 7) (ret := some .int) (hh := hhL) (ws' := gT) (by decide) rfl ?_
  intro p e s m args below meth c s₁ B hml hv
  obtain ⟨⟨rfl, hW, hK, hE, hbs⟩, hTY⟩ := hv
  have hts := atoms_spec (ws := wX) B.pre
  have hown : s.vm.findClass (on 13) = some m.cls := findClass_of_methodNamed B.named
  have hlocks := B.notSynchronized
  have hr : meth.sig.returnType = some .int := B.returns
  have hex : c.exceptionTable.toList = [⟨0, 14, 17, 13⟩] := vx_table (x := yLr) B (hts _ List.mem_cons_self)
  have hC : CX p s m ([.ref 1, .int p1, .int p2, .int p3, .int p4, .ref 269].map (cv b xo)).toArray c method_3_code 13 7 D cy b xo L xs := ⟨B.exec, B.bytes, hml, hown, fun w hw => hts w (List.mem_cons_of_mem _ hw), hK, hE, hbs⟩
  rw [lg_entry_eq]
  have hlm : (mc = 0 ∧ ms = 0) ∨ (mc = 1 ∧ ms = 6) := by
    cases e : restF p1 p2 p3 p4 with
    | some v => obtain ⟨a, b, -⟩ := hs v e; exact Or.inl ⟨a, b⟩
    | none => obtain ⟨a, b, -⟩ := hnn e; exact Or.inr ⟨a, b⟩
  have at9 : WS p l e (rmY mc ms) s m ([.ref 1, .int p1, .int p2, .int p3, .int p4, .ref 269].map (cv b xo)).toArray below meth c (MQ below (QcJ D cy b xo r M1) ([.ref 1, .int p1, .int p2, .int p3, .int p4, .ref 269].map (cv b xo)).toArray s mc ms (AA b)) D cy b xo (mS M) (mW M) M 9 [.ref 1, .int p1, .int p2, .int p3, .int p4, .ref 269, jk] [.int p4, .int p3, .int p2, .int p1, .ref 1, .int 0, .ref 269] := by
    intro H locs rl hw hsS hlv
    refine Wc (n1 := 0) (n2 := 0) ?_ (Nat.sub_self _).symm (Nat.sub_self _).symm
    intro T hT X
    have run := call156 (R := rmY mc ms) (cells := 0) (slots := 0) (mc := mc) (ms := ms) (e := e) (below := below) (meth := meth) (p1 := p1) (p2 := p2) (p3 := p3) (p4 := p4) hl hC hTY hw hsS hlv.1 hk1 hk hn (fun z => by obtain ⟨a, b, -⟩ := hnn z; omega) (by show 9 ≤ 10; decide) (by show 630 ≤ 700; decide) (by show 0 + mc ≤ mc; omega) (by show 0 + ms ≤ ms; omega) T hT X
    rcases run with ⟨v, st₀, t, T', Lc, h0, X', hLc, e1, e2, ⟨v0, hv0, hv, hw1, hF⟩, st⟩ | ⟨q, st₀, t, T', Lc, E, ce, h0, X', hLc, e1, e2, ⟨rfl, hz, hw1, hF⟩, hce, hcv, hcl, st⟩
    · cases hv
      obtain ⟨rfl, rfl, rfl, rfl⟩ := hs v0 hv0
      obtain ⟨f1, f2⟩ := hF
      rw [h0] at f1 f2
      have hS2 : va_S (AA b) s.heap T'.heap (locs ++ Lc) := ⟨Nat.le_trans hsS.1 (by rw [e1]; exact f1), fun q h1 h2 => by rw [e1, f2 q (Nat.lt_of_lt_of_le h1 hsS.1) h2]; exact hsS.2.1 q h1 h2, fun q hq => by
        rcases List.mem_append.mp hq with h | h
        · exact hsS.2.2 q h
        · exact hLc q h⟩
      have run2 : XN L xs ac kd (fun _ _ _ _ _ => False) (some .int) B1 (fun v M2 => v = some (.int 0) ∧ M2 = sJ M 269 0 v0.toInt64) 2 12 [.ref 1, .int p1, .int p2, .int p3, .int p4, .ref 269, jk] [.int v0, .int 0, .ref 269] M := by
        refine ⟨⟨hk9, by rw [hn9]; exact vp_in_nI (n := 0) (N := 1) (by decide) (by decide)⟩, ?_⟩
        exact ⟨rfl, rfl, rfl⟩
      have w12 := XN_W (p := p) (l := l) (e := e) (R := rmY 0 0) (below := below) (meth := meth) (Qf := MQ below (QcJ D cy b xo (some (.int 0)) (sJ M 269 0 v0.toInt64)) ([.ref 1, .int p1, .int p2, .int p3, .int p4, .ref 269].map (cv b xo)).toArray s 0 0 (AA b)) (z := mS M) (w := mW M) (z0 := mS M) (w0 := mW M) (d := 1) (ini := false) hC (fun h => absurd h (by decide)) (by show 2 ≤ 10; decide) (by show 120 ≤ 700; decide) (by rw [Nat.sub_self]; exact Nat.zero_le _) (by rw [Nat.sub_self]; exact Nat.zero_le _) (fun _ _ _ _ _ _ h => h.elim) (fun _ _ _ _ _ h => h.elim) (fun _ _ _ _ _ _ _ _ _ _ _ _ _ h => h.elim) cB1 (fun v M2 h => by rw [h.2]; exact ⟨Nat.le_refl _, Nat.le_refl _⟩) (fun v M2 h H1 locs1 rl1 pc1 hW1 hS1 hq => by
          obtain ⟨rfl, rfl⟩ := h
          rcases hq with ⟨x, ty, hx, hty, hd, hnr⟩ | ⟨x, hx, -⟩ | ⟨hx, -⟩
          · cases hx
            refine Wc (n1 := 0) (n2 := 0) ?_ (Nat.sub_self _).symm (Nat.sub_self _).symm
            exact W.zret hC.1 hC.2.1 (hr.trans hty) hnr (fun t ht _ => ⟨rfl, by rw [ht]; exact hW1, hS1.F ht⟩) hS1.2.2 hd hlocks
          · cases hx
          · cases hx) 2 12 _ _ M run2 rfl (Nat.le_refl _) (Nat.le_refl _) T'.heap (locs ++ Lc) rl (by rw [e1]; exact hw1) hS2 hlv
      obtain ⟨t2, a1, b1⟩ := Wc w12 (Nat.sub_self _) (Nat.sub_self _) T' rfl X'
      exact ⟨t2, st t2 a1, b1⟩
    · obtain ⟨rfl, rfl, rfl, rfl⟩ := hnn hz
      obtain ⟨f1, f2⟩ := hF
      rw [h0] at f1 f2
      have hS2 : va_S (AA b) s.heap T'.heap (locs ++ Lc) := ⟨Nat.le_trans hsS.1 (by rw [e1]; exact f1), fun q h1 h2 => by rw [e1, f2 q (Nat.lt_of_lt_of_le h1 hsS.1) h2]; exact hsS.2.1 q h1 h2, fun q hq => by
        rcases List.mem_append.mp hq with h | h
        · exact hsS.2.2 q h
        · exact hLc q h⟩
      have kk : W p l e (rmY 1 6) s m ([.ref 1, .int p1, .int p2, .int p3, .int p4, .ref 269].map (cv b xo)).toArray below meth c T'.heap (locs ++ Lc) (0 + 1) (0 + 6) (MQ below (QcJ D cy b xo (some (.int 1)) (bmp M)) ([.ref 1, .int p1, .int p2, .int p3, .int p4, .ref 269].map (cv b xo)).toArray s 1 6 (AA b)) (F0 m 17 rl [.ref q]) :=
        lv_astore hC.1 hC.2.1 dL_17 hlv (show 6 < 7 by decide) rfl (fun rl' h' => lv_iconst hC.1 hC.2.1 dL_19 (v := 1) rfl (W.zret hC.1 hC.2.1 hr rfl (fun t ht _ => ⟨rfl, by rw [ht, e1]; exact hw1, hS2.F ht⟩) hS2.2.2 dL_20 hlocks))
      obtain ⟨t2, a1, b1⟩ := catchN (pc := 9) (ls := rl) (rest := ([.int 0, .ref 269] : List Value).map (cv b xo)) hown hex (by decide) (by decide) (hC.2.2.2.2.1 _ (gt_5 (List.mem_of_getElem? (i := 237) rfl) rfl)) (va_Nw.use rfl hTY.1.1) (by rw [e1]; exact hce) hcv hcl kk T' rfl X'
      exact ⟨t2, st.trans a1, b1⟩
  have w0 := bl_W (p := p) (l := l) (e := e) (R := rmY mc ms) (below := below) (meth := meth) (E := fun _ _ _ _ _ => False) (K := fun pc ls st M2 => pc = 9 ∧ ls = [.ref 1, .int p1, .int p2, .int p3, .int p4, .ref 269, jk] ∧ st = [.int p4, .int p3, .int p2, .int p1, .ref 1, .int 0, .ref 269] ∧ M2 = M) (Q := fun _ _ => False) (rt := some .int) (z := mS M) (w := mW M) (z0 := mS M) (w0 := mW M) (d := 1) (ini := false) hC (fun h => absurd h (by decide)) (by show 2 ≤ 10; decide) (by show 120 ≤ 700; decide) (by rw [Nat.sub_self]; exact Nat.zero_le _) (by rw [Nat.sub_self]; exact Nat.zero_le _) (fun _ _ _ _ _ _ h => h.elim) (fun _ _ _ _ _ h => h.elim) (fun _ _ _ _ _ _ _ _ _ _ _ _ _ h => h.elim) (fun pc ls st M2 h _ _ _ => by obtain ⟨h1, h2, h3, h4⟩ := h; rw [h1, h2, h3, h4]; exact at9) (fun _ _ _ M2 h => by rw [h.2.2.2]; exact ⟨Nat.le_refl _, Nat.le_refl _⟩) (fun _ _ h => h.elim) (fun _ _ h => h.elim) B0 0 [.ref 1, .int p1, .int p2, .int p3, .int p4, .ref 269, jk] [] M cB0.1 cB0.2 (show (9 : Nat) = 9 ∧ _ = _ ∧ _ = _ ∧ _ = _ from ⟨rfl, rfl, rfl, rfl⟩) rfl (Nat.le_refl _) (Nat.le_refl _)
  have k2 := w0 s.heap [] _ hW va_S.rf (lay_has (a := [.ref 1, .int p1, .int p2, .int p3, .int p4, .ref 269]) (n := 7) (show 6 ≤ 7 by decide))
  exact Wc k2 (Nat.sub_self _) (Nat.sub_self _)
end
section
variable {p : Program} {l : Launch} {e : Env} {R : Room} {s : State} {m : MethodId} {args : Array Value} {below : List Frame} {meth : Method} {c : Code} {Qf : State → Prop} {D : va_G} {cy : Nat → ClassId} {b : Nat} {xo : Nat → Option Nat} {L : Nat} {xs : Nat → Int32}
theorem LR_ok {d : Nat} {cc : ByteArray} (hl : l.stackTraces = false) (hC : CX p s m args c cc 13 7 D cy b xo L xs) (hT : TY b s s.heap) (hR1 : 11 ≤ R.frames) (hR2 : 726 ≤ R.locals) : LRr p l e R s m args below meth c Qf cc 13 7 D cy b xo (Cl (L, xs, EXR) d) := by
  intro x pc a rest M r M1 H locs rl cells slots hml hE hW hS hrl hct hc1 hc2 hdg kk
  have hE1 : ∃ d', EXR d' 291 a M r M1 := by
    cases d with
    | zero => exact hE.elim
    | succ d =>
      have hE : Ev L xs ac kd PP EXR (d + 1) 291 a M r M1 := hE
      unfold Ev at hE
      have hP : PP 291 = none := rfl
      rw [hP] at hE
      exact ⟨d, hE⟩
  obtain ⟨d', -, p1, p2, p3, p4, rfl, ⟨k1, k9, n9, k5, n5⟩, hcase⟩ := hE1
  have hts := hC.2.2.2.2.1
  have hM : Met l yLr wX (rmY (mS M1 - mS M) (mW M1 - mW M)) (PcX D cy b xo L xs [.ref 1, .int p1, .int p2, .int p3, .int p4, .ref 269] M) (QcJ D cy b xo r M1) (mS M1 - mS M) (mW M1 - mW M) (AA b) := by
    refine met291 hl k1 k9 n9 k5 n5 (fun v hv => ?_) (fun hv => ?_)
    · rcases hcase with ⟨v', h1, h2, rfl⟩ | ⟨h1, -⟩
      · cases hv.symm.trans h1
        exact ⟨Nat.sub_self _, Nat.sub_self _, h2, rfl⟩
      · cases hv.symm.trans h1
    · rcases hcase with ⟨v', h1, -⟩ | ⟨h1, h2, rfl⟩
      · cases hv.symm.trans h1
      · exact ⟨Nat.add_sub_cancel_left (mS M) 1, Nat.add_sub_cancel_left (mW M) 6, h2, rfl⟩
  have hpre : ∀ U : State, U.heap = H → s.WarmedH U.vm → PcX D cy b xo L xs [.ref 1, .int p1, .int p2, .int p3, .int p4, .ref 269] M (([.ref 1, .int p1, .int p2, .int p3, .int p4, .ref 269] : List Value).map (cv b xo)).toArray U := fun U hU hw => ⟨PcJ_at hC hW hS U hU hw, by rw [hU]; exact hT.to hw hS.2.1⟩
  have hini : (Cond.initialized yLr.cls).before args s = true := hts _ (gt_1 (List.mem_of_getElem? (i := 0) rfl) rfl)
  refine r_ret (vx_runSW (own := on 13) (index := x) (As := ([.ref 1, .int p1, .int p2, .int p3, .int p4, .ref 269] : List Value).map (cv b xo)) (rest := rest.map (cv b xo)) (n := 6) (bytes := method_3_code) (maxL := 7) (ret := some .int) (hh := hhL) (Ts := gT) ⟨hC.1, hC.2.1, hC.2.2.1, hC.2.2.2.1, hts⟩ hM ⟨⟨rfl, rfl, hR1, by show 8 + (7 + 11) + 700 ≤ _; omega, pay_in hts wX_good, List.mem_cons_self⟩, hts _ cwL_in, hini, ⟨by decide, by decide⟩, fun sig h => ?_, hts _ (ML_in hml), hts _ (gt_5 (List.mem_of_getElem? (i := 235) rfl) rfl)⟩ ⟨PcX_blind, hpre⟩ rfl rfl hrl (by rw [List.map_append, List.map_reverse]) (lv_room (by rw [cats_cv]; exact hct)) hdg ⟨hc1, hc2⟩) hS (fun H1 locs1 hw hs => ?_)
  · have h2 : (parseMethodDescriptor yLr.desc).map (fun d => d.parameters.length) = some 6 := by decide +kernel
    rw [h] at h2
    exact (Option.some.inj h2).symm
  · rw [toL]
    exact kk H1 locs1 hw hs
end
