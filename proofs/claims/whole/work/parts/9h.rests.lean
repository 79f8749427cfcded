/-! rests of the class, over the machine -/
def TY (b : Nat) (U : State) (H : Heap) : Prop := TX b U H ∧ (∃ sa, vk_R "ShoeOrchard" 310 "what one gets or loses is 0 to 9" sa U) ∧ ∃ sa, vk_R "ShoeOrchard" 319 "there is no such rest" sa U
theorem TY.to {b : Nat} {U U' : State} {H H' : Heap} (hW : U.WarmedH U'.vm) (hq : ∀ a : Nat, a < H.size → ¬ AA b a → H'[a]? = H[a]?) (h : TY b U H) : TY b U' H' := by
  obtain ⟨h1, ⟨s1, h2⟩, s2, h3⟩ := h
  exact ⟨h1.to hW hq, ⟨s1, h2.warm hW⟩, s2, h3.warm hW⟩
theorem arrV_eq {cI : ClassId} {N : Nat} {f g : Nat → Value} (h : ∀ j, j < N → f j = g j) : arrV cI N f = arrV cI N g := by
  have e : (Array.ofFn (n := N) fun j => f j.val) = Array.ofFn (n := N) fun j => g j.val := by
    congr 1
    funext j
    exact h j.val j.isLt
  unfold arrV
  rw [e]
/-- one cell more, that is none of ours -/
theorem WR_bmp {D : va_G} {cy : Nat → ClassId} {b : Nat} {M : mm_M} {H H1 : Heap} (h : WR D cy b M H) (hk : mK M 55 = 18) (hn : mN M 55 = 16) (z : H1.size = H.size + 1) (oq : ∀ q : Nat, q < H.size → H1[q]? = H[q]?) : WR D cy b (bmp M) H1 := by
  refine ⟨by rw [z, h.1]; show b + mS M + 1 = b + (mS M + 1); omega, fun a ha => ?_⟩
  have ha : mK M a < 19 := ha
  obtain ⟨h0, hc⟩ := h.2 a ha
  have hl := cok_lt hc
  refine ⟨h0, ?_⟩
  by_cases e : a = 55
  · subst e
    have hc := h.ar hk (by decide) (by decide)
    refine cok_ar (ci := 18) hk (by decide) ?_
    rw [oq _ hl, hc.2]
    show some (arrV (cy 18) (mN M 55) (av b M 18 55)) = some (arrV (cy 18) (mN M 55) (av b (bmp M) 18 55))
    rw [hn]
    refine congrArg some (arrV_eq (fun j hj => ?_))
    have e2 : mR (bmp M) 55 j = mR M 55 j := by
      show u2 (u2 M.2.2.2.2.1 55 100 _) 55 101 _ 55 j = _
      rw [u2i (by omega), u2i (by omega)]
      rfl
    unfold av
    rw [e2]
    rfl
  · refine cok_kept hc (oq _ hl) rfl rfl rfl rfl ?_
    show u2 (u2 M.2.2.2.2.1 55 100 _) 55 101 _ a = M.2.2.2.2.1 a
    rw [u2n e, u2n e]
theorem sk_no : on 11 = "ShoeOrchard" ∧ ow 156 = 11 ∧ yy 156 = ⟨"ShoeOrchard", "rests", "(IIII)I"⟩ ∧ bb 156 = prog_1_method_33_code ∧ ml 156 = 11 ∧ rr 156 = some .int := ⟨rfl, rfl, rfl, rfl, rfl, rfl⟩
theorem dr_21 : decode prog_1_method_33_code 21 = .ok (.new 308, 3) ∧ decode prog_1_method_33_code 24 = .ok (.dup, 1) ∧ decode prog_1_method_33_code 25 = .ok (.ldc_w 310, 3) ∧ decode prog_1_method_33_code 28 = .ok (.invokespecial 312, 3) ∧ decode prog_1_method_33_code 31 = .ok (.athrow, 1) := ⟨by decide +kernel, by decide +kernel, by decide +kernel, by decide +kernel, by decide +kernel⟩
theorem dr_155 : decode prog_1_method_33_code 155 = .ok (.new 308, 3) ∧ decode prog_1_method_33_code 158 = .ok (.dup, 1) ∧ decode prog_1_method_33_code 159 = .ok (.ldc_w 319, 3) ∧ decode prog_1_method_33_code 162 = .ok (.invokespecial 312, 3) ∧ decode prog_1_method_33_code 165 = .ok (.athrow, 1) := ⟨by decide +kernel, by decide +kernel, by decide +kernel, by decide +kernel, by decide +kernel⟩
def PcX (D : va_G) (cy : Nat → ClassId) (b : Nat) (xo : Nat → Option Nat) (L : Nat) (xs : Nat → Int32) (a : List Value) (M : mm_M) : Array Value → State → Prop := fun v U => PcJ D cy b xo L xs a M v U ∧ TY b U U.heap
def QcX (D : va_G) (cy : Nat → ClassId) (b : Nat) (rs : Option Int32) (M : mm_M) : Array Value → State → Outcome → State → Prop := fun _ st oc t => ∃ v, rs = some v ∧ oc = .returned (some (.int v)) ∧ WR D cy b M t.heap ∧ va_F (AA b) st t
def XCX (D : va_G) (cy : Nat → ClassId) (b : Nat) (rs : Option Int32) (M : mm_M) : String → State → State → Prop := fun E st t => E = nsE ∧ rs = none ∧ WR D cy b (bmp M) t.heap ∧ va_F (AA b) st t
def rmX (mc ms : Nat) : Room := { frames := 8, cells := mc, slots := ms, locals := 600 }
theorem PcX_blind {D : va_G} {cy : Nat → ClassId} {b : Nat} {xo : Nat → Option Nat} {L : Nat} {xs : Nat → Int32} {a : List Value} {M : mm_M} : FrameBlind (PcX D cy b xo L xs a M) := fun v U g mk q => ⟨PcJ_blind v U g mk q.1, q.2.to (State.WarmedH.refl U) (fun _ _ _ => rfl)⟩
theorem vm156 {l : Launch} {D : va_G} {cy : Nat → ClassId} {b : Nat} {xo : Nat → Option Nat} {L : Nat} {xs : Nat → Int32} {M : mm_M} {a mc ms : Nat} {p1 p2 p3 p4 : Int32} (hl : l.stackTraces = false) (hk : mK M 55 = 18) (hn : mN M 55 = 16) (hm : restF p1 p2 p3 p4 = none → 1 ≤ mc ∧ 6 ≤ ms) :
    vx_Met l (yy 156) (wJ 156) (rmX mc ms) (PcX D cy b xo L xs [.ref a, .int p1, .int p2, .int p3, .int p4] M) (QcX D cy b (restF p1 p2 p3 p4) M) (XCX D cy b (restF p1 p2 p3 p4) M) mc ms (AA b) := by
  refine vx_ofW (cc := bb 156) (maxL := ml 156) (ret := rr 156) (ws' := gT) (by decide) rfl ?_
  intro p e s m args below meth c s₁ B hml hex hv
  obtain ⟨⟨rfl, hW, hK, hE, hbs⟩, hTY⟩ := hv
  have hts := atoms_spec (ws := wJ 156) B.pre
  have hown : s.vm.findClass (on 11) = some m.cls := findClass_of_methodNamed B.named
  have hlocks := B.notSynchronized
  have hr := B.returns
  have hC : CX p s m ([.ref a, .int p1, .int p2, .int p3, .int p4].map (cv b xo)).toArray c (bb 156) 11 11 D cy b xo L xs := ⟨B.exec, B.bytes, hml, hown, fun w hw => hts w (List.mem_cons_of_mem _ hw), hK, hE, hbs⟩
  rw [lg_entry_eq]
  have hXX : ∀ d j a M r M1, EXR d j a M r M1 → j = 291 := fun _ _ _ _ _ _ h => h.1
  have hXz : ∀ d j a M r M1, EXR d j a M r M1 → mS M ≤ mS M1 ∧ mW M ≤ mW M1 := fun _ _ _ _ _ _ h => by
    obtain ⟨-, b, l, g, w, -, -, ⟨v, -, -, rfl⟩ | ⟨-, -, rfl⟩⟩ := h
    · exact ⟨Nat.le_refl _, Nat.le_refl _⟩
    · exact ⟨Nat.le_succ _, Nat.le_add_right _ _⟩
  let G : GG := (L, xs, EXR)
  let Qf := vx_MQ below (QcX D cy b (restF p1 p2 p3 p4) M) (XCX D cy b (restF p1 p2 p3 p4) M) ([.ref a, .int p1, .int p2, .int p3, .int p4].map (cv b xo)).toArray s mc ms (AA b)
  let Rm := (headSpec (wJ 156) (rmX mc ms)).room
  let Z : Nat → List Value → List Value → mm_M → Prop := fun pc ls st M1 => (mS M1 ≤ mS M ∧ mW M1 ≤ mW M) ∧ (ls.length = 11 → mS M ≤ mS M1 → mW M ≤ mW M1 → WS p l e Rm s m ([.ref a, .int p1, .int p2, .int p3, .int p4].map (cv b xo)).toArray below meth c Qf D cy b xo (mS M) (mW M) M1 pc ls st)
  let Q : Option Value → mm_M → Prop := fun v M1 => M1 = M ∧ ∃ x, restF p1 p2 p3 p4 = some x ∧ v = some (.int x)
  have hQz : ∀ v M1, Q v M1 → mS M1 ≤ mS M ∧ mW M1 ≤ mW M := fun v M1 h => by rw [h.1]; exact ⟨Nat.le_refl _, Nat.le_refl _⟩
  have hEv : ∀ j a M r M1, j ≠ 291 → Cl G 1 j a M r M1 → MC l D cy b xo L xs 1 j a M r M1 := Ev_MC hXX hXz 1
  have hEz : ∀ j a M r M1, Cl G 1 j a M r M1 → mS M ≤ mS M1 ∧ mW M ≤ mW M1 := Ev_size hXz 1
  have hA : ZA G 1 Q Z := fun pc bk ls st M1 hbk hbl => by
    have hm1 := lookup_mem hbk
    have ck : ckB 11 false (bb 156) bk pc = true := List.all_eq_true.mp Kz _ hm1
    have jm : jmpB bk pc = true := List.all_eq_true.mp Jzk _ hm1
    refine ⟨bl_size hEz (fun _ _ _ _ h => h.1) hQz bk pc ls st M1 hbl, fun h1 h2 h3 => ?_⟩
    refine bl_W (z := mS M) (w := mW M) (d := 1) (ini := false) (rt := some .int) hC (fun h => absurd h (by decide)) (by show 2 ≤ 8; decide) (by show 120 ≤ 600; decide) (by rw [Nat.sub_self]; exact Nat.zero_le _) (by rw [Nat.sub_self]; exact Nat.zero_le _) hEv hEz (fun x pc a rest M r M1 H locs rl cells slots h1 => absurd (lr_own _ h1 rfl) (show ¬ (11 : Nat) = 13 by decide)) (fun pc ls st M1 h h1 h2 h3 => h.2 h1 h2 h3) (fun _ _ _ _ h => h.1) hQz ?_ bk pc ls st M1 ck jm hbl h1 h2 h3
    intro v M2 hv H1 locs1 rl1 pc1 hW1 hS1 hq
    obtain ⟨rfl, y, hy, rfl⟩ := hv
    rcases hq with ⟨x, ty, hx, hty, hd, hnr⟩ | ⟨x, hx, -⟩ | ⟨hx, -⟩
    · cases hx
      refine Wc (n1 := 0) (n2 := 0) ?_ (Nat.sub_self _).symm (Nat.sub_self _).symm
      refine vx_ret (W.widen (Nat.zero_le mc) (Nat.zero_le ms) (W.zret hC.1 hC.2.1 (hr.trans hty) hnr (fun t ht _ => ⟨y, hy, rfl, by rw [ht]; exact hW1, hS1.F ht⟩) hS1.2.2 hd hlocks))
    · cases hx
    · cases hx
  have hLw : ZL Z := fun pc ls lc st M1 h hle => by
    refine ⟨h.1, fun h1 h2 h3 H locs rl hw hs hlv => ?_⟩
    have hlen := lsle_len hle
    refine h.2 (hlen.trans h1) h2 h3 H locs rl hw hs ⟨by rw [hlen]; exact hlv.1, hlv.2.1, fun q hq => ?_⟩
    obtain ⟨i, v⟩ := q
    obtain ⟨v0, g1, g2, rfl⟩ := pl_mem.mp hq
    exact hlv.2.2 _ (pl_mem.mpr ⟨v0, lsle_get hle g1 g2, g2, rfl⟩)
  have key : Z 0 [.ref a, .int p1, .int p2, .int p3, .int p4, jk, jk, jk, jk, jk, jk] [] M := by
    refine z156 (d := 0) hA hLw (fun v hv => ⟨rfl, v, hv, rfl⟩) (fun hnn => ⟨⟨Nat.le_refl _, Nat.le_refl _⟩, fun h1 h2 h3 H locs rl hw hs hlv => ?_⟩) (fun hnn n k => ⟨⟨Nat.le_refl _, Nat.le_refl _⟩, fun h1 h2 h3 H locs rl hw hs hlv => ?_⟩)
    · obtain ⟨x1, ⟨s1, x2⟩, x3⟩ := hTY
      obtain ⟨c1, c2⟩ := hm hnn
      obtain ⟨d1, d2, d3, d4, d5⟩ := dr_21
      refine Wc (n1 := 0) (n2 := 0) ?_ (Nat.sub_self _).symm (Nat.sub_self _).symm
      exact throwN (rest := []) hC.1 hC.2.1 hl hown hC.2.2.2.2.1 x1 x2 hs (hlv.1.trans hml.symm) d1 d2 d3 d4 d5 (fun x hx => (hex x hx).elim) (by show 5 < 8; decide) (by show 0 + 82 ≤ 600; decide) (by show 0 + 1 ≤ mc; omega) (by show 0 + 6 ≤ ms; omega) hlocks (fun t _ hz hq => ⟨rfl, hnn, WR_bmp hw hk hn hz hq, Nat.le_trans hs.1 (by omega), fun q h1 h2 => by rw [hq q (Nat.lt_of_lt_of_le h1 hs.1)]; exact hs.2.1 q h1 h2⟩) hs.2.2 (by omega) (by omega)
    · obtain ⟨x1, -, s1, x2⟩ := hTY
      obtain ⟨c1, c2⟩ := hm hnn
      obtain ⟨d1, d2, d3, d4, d5⟩ := dr_155
      refine Wc (n1 := 0) (n2 := 0) ?_ (Nat.sub_self _).symm (Nat.sub_self _).symm
      exact throwN (rest := []) hC.1 hC.2.1 hl hown hC.2.2.2.2.1 x1 x2 hs (hlv.1.trans hml.symm) d1 d2 d3 d4 d5 (fun x hx => (hex x hx).elim) (by show 5 < 8; decide) (by show 0 + 82 ≤ 600; decide) (by show 0 + 1 ≤ mc; omega) (by show 0 + 6 ≤ ms; omega) hlocks (fun t _ hz hq => ⟨rfl, hnn, WR_bmp hw hk hn hz hq, Nat.le_trans hs.1 (by omega), fun q h1 h2 => by rw [hq q (Nat.lt_of_lt_of_le h1 hs.1)]; exact hs.2.1 q h1 h2⟩) hs.2.2 (by omega) (by omega)
  have k2 := key.2 rfl (Nat.le_refl _) (Nat.le_refl _) s.heap [] _ hW va_S.rf (lay_has (a := [.ref a, .int p1, .int p2, .int p3, .int p4]) (n := 11) (show 5 ≤ 11 by decide))
  exact Wc k2 (Nat.sub_self _) (Nat.sub_self _)
