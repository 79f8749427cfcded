/-! the class reads lines -/
section
variable {G : GG} {d : Nat} {P : Int32 → mm_M → Prop} {Pv : mm_M → Prop} {Q : Option Value → mm_M → Prop} {r : Nat → Nat} {I : Nat → Nat → Int32} {J : Nat → Nat → Int64} {π : PLN} {σ : Nat → Nat → Nat} {tp : List Nat} {y i j n f : Nat} {nm : NMT} {s : OS} {I' I2 : Nat → Nat → Int32} {J' J2 : Nat → Nat → Int64}
theorem num_b (hl : tp.length ≤ 1000) {lo hi : Nat} (h : numP tp lo hi i ≠ 0) : 0 < numP tp lo hi i ∧ numP tp lo hi i < 2 ^ 20 := by
  unfold numP at h ⊢
  split
  · split
    · exact flt_b hl (by decide) (by decide)
    · rename_i h1 h2
      rw [if_pos h1, if_neg h2] at h; exact absurd rfl h
  · exact flt_b hl (by decide) (by decide)
theorem num_s {lo hi : Nat} (hl : tp.length ≤ 1000) (h : numP tp lo hi i = 0) : soF tp i = 2 ∧ lo ≤ nuF tp i ∧ nuF tp i ≤ hi := by
  have h4 := (flt_b hl (j := i) (k := 4) (by decide) (by decide)).1
  have h1 := (flt_b hl (j := i) (k := 1) (by decide) (by decide)).1
  unfold numP at h
  by_cases q : soF tp i = 2
  · rw [if_pos q] at h
    by_cases q2 : nuF tp i < lo ∨ hi < nuF tp i
    · rw [if_pos q2] at h; omega
    · omega
  · rw [if_neg q] at h; omega
theorem inW_b {fr many : Nat} (h : inW tp fr many i = true) : fr < wiF tp i ∧ wiF tp i ≤ fr + many := by
  unfold inW at h
  simpa only [Bool.and_eq_true, decide_eq_true_eq] using h
theorem inW_n {fr many : Nat} (h : inW tp fr many i = false) : ¬ (fr < wiF tp i ∧ wiF tp i ≤ fr + many) := fun z => by
  unfold inW at h
  rw [decide_eq_true z.1, decide_eq_true z.2] at h
  exact absurd h (by decide)
theorem n30 (hc : CRD I J tp j) (hp : CPO I J s) (hW : WO s) (hE : HO P r I J tp (trP tp j s)) : CI G (d + 9) 30 [.ref 20, .ref 2] (mem r I J) P := by
  have hT := hW.t
  have hl := hc.l
  have hb : ∀ {k i : Nat}, 1 ≤ k → k ≤ 5 → 0 < flt tp k i ∧ flt tp k i < 2 ^ 20 := fun h1 h2 => flt_b hl h1 h2
  unfold trP at hE
  refine e30 ?_
  simp only [mKm, mNm, mIm, mIf, mJm, mJf, mRm, sIm, sJm, rwIm, rwJm, kN, nN, rN, true_and, hp.t]
  by_cases q0 : 6 ≤ nT s.1
  · rw [if_pos q0] at hE
    exact ifn (nI_nlt (b := 6) q0 (by omega)) (n98e (k := 5) hc (fun I1 f1 h1 => ⟨Or.inl rfl, hE.fl rfl (hb (by decide) (by decide)).1 f1.cr h1⟩))
  rw [if_neg q0] at hE
  refine ifp (nI_lt (b := 6) (by omega) (by decide)) (n90 hc (fun I1 J1 f1 c1 => ⟨rfl, rfl, rfl, ?_⟩))
  have p1 := hp.cl f1
  refine n31 c1 p1 hW (fun q1 q2 => ifp (by decide) ?_) (fun q1 I2 f2 h2 => ifn (fun z => z rfl) ?_) (fun q1 q2 I2 f2 h2 => ifn (fun z => z rfl) ?_)
  rotate_left
  · rw [if_pos q1] at hE; exact hE.fl rfl (hb (by decide) (by decide)).1 (f1.cr.trans f2) h2
  · rw [if_neg (by rw [q1]; decide), if_pos (hasN_t.mpr q2)] at hE; exact hE.fl rfl (hb (by decide) (by decide)).1 (f1.cr.trans f2) h2
  rw [if_neg (by rw [q1]; decide), if_neg (fun z => q2 (hasN_t.mp z))] at hE
  have e1 : I1 21 0 = nI (nT s.1) := p1.t
  have t6 : nT s.1 < 6 := by omega
  simp only [mKm, mNm, mIm, mIf, mJm, mJf, mRm, sIm, sJm, rwIm, rwJm, kN, nN, rN, true_and, e1, ix t6 (by decide), c1.w (nmB_1 q1)]
  have c2 : CRD I1 (u2 J1 25 (nT s.1) (lN (eB 32 (rkF tp (j + 1))))) tp (j + 1) := c1.fr rfl rfl (by rw [u2n (by decide)])
  have g2 : Fcr I I1 J (u2 J1 25 (nT s.1) (lN (eB 32 (rkF tp (j + 1))))) := f1.cr.trans (Fcr.setJ (Or.inl rfl))
  refine b30_40_53 ⟨rfl, n90 c2 (fun I3 J3 f3 c3 => ⟨rfl, rfl, rfl, ?_⟩)⟩
  have g3 := g2.trans f3.cr
  refine n100 (s := 3) c3 (by decide) (fun q3 I4 J4 f4 c4 => ?_) (fun q3 I4 f4 h4 => ?_)
  rotate_left
  · have e9 : wm 3 (wiF tp (j + 2)) = if 15 ≤ wiF tp (j + 2) ∧ wiF tp (j + 2) ≤ 18 then wiF tp (j + 2) - 14 else 0 := rfl
    have q3' : inW tp 14 4 (j + 2) = false := by
      cases e : inW tp 14 4 (j + 2) with
      | false => rfl
      | true =>
        have := inW_b e
        rw [show j + 1 + 1 = j + 2 from rfl, e9, if_pos (by omega)] at q3
        omega
    rw [if_pos q3'] at hE
    have hb1 := hb (k := 1) (i := j + 2) (by decide) (by decide)
    have e4 : u2 I4 22 (nT s.1) (-1) 2 4 = nI (flt tp 1 (j + 2)) := by rw [u2n (by decide)]; exact h4
    simp only [mKm, mNm, mIm, mIf, mJm, mJf, mRm, sIm, sJm, rwIm, rwJm, kN, nN, rN, true_and, ix t6 (by decide), e4]
    exact ifp (nI_ne0 hb1.1 (by omega)) ⟨_, rfl, hE.fl rfl hb1.1 ((g3.trans f4).trans (Fcr.set (by decide))) e4⟩
  have e9 : wm 3 (wiF tp (j + 2)) = if 15 ≤ wiF tp (j + 2) ∧ wiF tp (j + 2) ≤ 18 then wiF tp (j + 2) - 14 else 0 := rfl
  have q3' : 15 ≤ wiF tp (j + 2) ∧ wiF tp (j + 2) ≤ 18 := by
    by_cases e : 15 ≤ wiF tp (j + 2) ∧ wiF tp (j + 2) ≤ 18
    · exact e
    · rw [show j + 1 + 1 = j + 2 from rfl, e9, if_neg e] at q3; exact absurd rfl q3
  have ew : wm 3 (wiF tp (j + 1 + 1)) - 1 = wiF tp (j + 2) - 15 := by
    rw [show j + 1 + 1 = j + 2 from rfl, e9, if_pos q3']; omega
  rw [if_neg (fun z => inW_n z (by omega))] at hE
  rw [ew]
  have e4 : u2 I4 22 (nT s.1) (nI (wiF tp (j + 2) - 15)) 2 4 = 0 := by rw [u2n (by decide)]; exact c4.2.2.2
  have c5 : CRD (u2 I4 22 (nT s.1) (nI (wiF tp (j + 2) - 15))) J4 tp (j + 3) := c4.fr (by rw [u2n (by decide)]) (by rw [u2n (by decide)]) rfl
  have g5 : Fcr I (u2 I4 22 (nT s.1) (nI (wiF tp (j + 2) - 15))) J J4 := (g3.trans f4.cr).trans (Fcr.set (by decide))
  simp only [mKm, mNm, mIm, mIf, mJm, mJf, mRm, sIm, sJm, rwIm, rwJm, kN, nN, rN, true_and, ix t6 (by decide), e4]
  refine ifn (fun z => z (by first | exact rfl | exact trivial)) (n101 (s := 4) c5 (by decide) (fun q4 I6 J6 f6 c6 => ifp (by decide) ?_) (fun q4 I6 f6 h6 => ifn (fun z => z rfl) ⟨_, rfl, ?_⟩))
  rotate_left
  · rw [if_pos (show wiF tp (j + 3) ≠ 2 from q4)] at hE; exact hE.fl rfl (hb (by decide) (by decide)).1 (g5.trans f6) h6
  rw [if_neg (fun z => z q4)] at hE
  simp only [mKm, mNm, mIm, mIf, mJm, mJf, mRm, sIm, sJm, rwIm, rwJm, kN, nN, rN, true_and]
  refine n103 (lo := 0) (hi := 30) c6 (by decide) (by decide) (fun q5 I7 J7 f7 c7 => ?_) (fun q5 I7 f7 h7 => ?_)
  rotate_left
  · rw [if_pos q5] at hE
    have hb5 : 0 < numP tp 0 30 (j + 4) ∧ numP tp 0 30 (j + 4) < 2 ^ 20 := num_b hl q5
    have e7 : u2 I7 23 (nT s.1) (-1) 2 4 = nI (numP tp 0 30 (j + 4)) := by rw [u2n (by decide)]; exact h7
    simp only [mKm, mNm, mIm, mIf, mJm, mJf, mRm, sIm, sJm, rwIm, rwJm, kN, nN, rN, true_and, ix t6 (by decide), e7]
    exact ifp (nI_ne0 hb5.1 (by omega)) ⟨_, rfl, hE.fl rfl hb5.1 (((g5.trans f6.cr).trans f7).trans (Fcr.set (by decide))) e7⟩
  rw [if_neg (fun z => z q5)] at hE
  have e7 : u2 I7 23 (nT s.1) (nI (nuF tp (j + 4))) 2 4 = 0 := by rw [u2n (by decide)]; exact c7.2.2.2
  have c8 : CRD (u2 I7 23 (nT s.1) (nI (nuF tp (j + 4)))) J7 tp (j + 5) := c7.fr (by rw [u2n (by decide)]) (by rw [u2n (by decide)]) rfl
  have g8 : Fcr I (u2 I7 23 (nT s.1) (nI (nuF tp (j + 4)))) J J7 := ((g5.trans f6.cr).trans f7.cr).trans (Fcr.set (by decide))
  simp only [mKm, mNm, mIm, mIf, mJm, mJf, mRm, sIm, sJm, rwIm, rwJm, kN, nN, rN, true_and, ix t6 (by decide), e7]
  refine ifn (fun z => z (by first | exact rfl | exact trivial)) (n101 (s := 5) c8 (by decide) (fun q6 I9 J9 f9 c9 => ifp (by decide) ?_) (fun q6 I9 f9 h9 => ifn (fun z => z rfl) ⟨_, rfl, ?_⟩))
  rotate_left
  · rw [if_pos (show wiF tp (j + 5) ≠ 3 from q6)] at hE; exact hE.fl rfl (hb (by decide) (by decide)).1 (g8.trans f9) h9
  rw [if_neg (fun z => z q6)] at hE
  simp only [mKm, mNm, mIm, mIf, mJm, mJf, mRm, sIm, sJm, rwIm, rwJm, kN, nN, rN, true_and]
  refine n103 (lo := 0) (hi := 20) c9 (by decide) (by decide) (fun q7 I10 J10 f10 c10 => ?_) (fun q7 I10 f10 h10 => ?_)
  rotate_left
  · rw [if_pos q7] at hE
    have hb5 : 0 < numP tp 0 20 (j + 6) ∧ numP tp 0 20 (j + 6) < 2 ^ 20 := num_b hl q7
    simp only [mKm, mNm, mIm, mIf, mJm, mJf, mRm, sIm, sJm, rwIm, rwJm, kN, nN, rN, true_and, ix t6 (by decide)]
    refine b30_124_153 ?_
    have e10 : ∀ v, u2 (u2 I10 24 (nT s.1) (-1)) 21 0 v 2 4 = nI (numP tp 0 20 (j + 6)) := fun v => by rw [u2n (by decide), u2n (by decide)]; exact h10
    simp only [mKm, mNm, mIm, mIf, mJm, mJf, mRm, sIm, sJm, rwIm, rwJm, kN, nN, rN, true_and, e10]
    exact ifp (nI_ne0 hb5.1 (by omega)) ⟨_, rfl, hE.fl rfl hb5.1 ((((g8.trans f9.cr).trans f10).trans (Fcr.set (by decide))).trans (Fcr.set (by decide))) (e10 _)⟩
  rw [if_neg (fun z => z q7)] at hE
  have ch : ∀ a, 3 ≤ a → a ≠ 22 → a ≠ 23 → I10 a = I a := fun a h1 h2 h3 => by
    rw [f10.1 a (by omega), f9.1 a (by omega), u2n h3, f7.1 a (by omega), f6.1 a (by omega), u2n h2, f4.1 a (by omega), f3.1 a (by omega), f1.1 a (by omega)]
  have e21 : u2 I10 24 (nT s.1) (nI (nuF tp (j + 6))) 21 0 = nI (nT s.1) := by rw [u2n (by decide), ch 21 (by decide) (by decide) (by decide)]; exact hp.t
  simp only [mKm, mNm, mIm, mIf, mJm, mJf, mRm, sIm, sJm, rwIm, rwJm, kN, nN, rN, true_and, ix t6 (by decide), e21, nI_1]
  refine b30_124_153 ?_
  have e10 : u2 (u2 I10 24 (nT s.1) (nI (nuF tp (j + 6)))) 21 0 (nI (nT s.1 + 1)) 2 4 = 0 := by rw [u2n (by decide), u2n (by decide)]; exact c10.2.2.2
  simp only [mKm, mNm, mIm, mIf, mJm, mJf, mRm, sIm, sJm, rwIm, rwJm, kN, nN, rN, true_and, e10]
  refine ifn (fun z => z (by first | exact rfl | exact trivial)) ⟨_, rfl, hE.1 rfl _ _ ((((g8.trans f9.cr).trans f10.cr).trans (Fcr.set (by decide))).trans (Fcr.set (by decide))) (c10.fr (by rw [u2n (by decide), u2n (by decide)]) (by rw [u2n (by decide), u2n (by decide)]) rfl) (hp.tree hW u2s (fun x hx => ?_) ?_ ?_ ?_ (fun x h1 h2 => ?_) ?_ ?_)⟩
  · rw [u2i (by omega), u2n (by decide), ch 21 (by decide) (by decide) (by decide)]
  · rw [u2n (by decide), u2n (by decide), f10.1 22 (by decide), f9.1 22 (by decide), u2n (by decide), f7.1 22 (by decide), f6.1 22 (by decide)]
    funext x
    by_cases e : x = nT s.1
    · rw [e, u2s, u2s]
    · rw [u2i e, u2i e, f4.1 22 (by decide), f3.1 22 (by decide), f1.1 22 (by decide)]
  · rw [u2n (by decide), u2n (by decide), f10.1 23 (by decide), f9.1 23 (by decide)]
    funext x
    by_cases e : x = nT s.1
    · rw [e, u2s, u2s]
    · rw [u2i e, u2i e, f7.1 23 (by decide), f6.1 23 (by decide), u2n (by decide), f4.1 23 (by decide), f3.1 23 (by decide), f1.1 23 (by decide)]
  · rw [u2n (by decide)]
    funext x
    by_cases e : x = nT s.1
    · rw [e, u2s, u2s]
    · rw [u2i e, u2i e, ch 24 (by decide) (by decide) (by decide)]
  · rw [u2n (by omega), u2n (by omega), ch x (by omega) (by omega) (by omega)]
  · rw [f10.2.2.2 25 (by decide), f9.2.2.2 25 (by decide), f7.2.2.2 25 (by decide), f6.2.2.2 25 (by decide), f4.2.2.2 25 (by decide), f3.2.2.2 25 (by decide)]
    funext x
    by_cases e : x = nT s.1
    · rw [e, u2s, u2s]
    · rw [u2i e, u2i e, f1.2.2.2 25 (by decide)]
  · rw [f10.2.2.2 28 (by decide), f9.2.2.2 28 (by decide), f7.2.2.2 28 (by decide), f6.2.2.2 28 (by decide), f4.2.2.2 28 (by decide), f3.2.2.2 28 (by decide), u2n (by decide), f1.2.2.2 28 (by decide)]
theorem n32 (hc : CRD I J tp j) (hp : CPO I J s) (hW : WO s) (hE : HO P r I J tp (peP tp j s)) : CI G (d + 9) 32 [.ref 20, .ref 2] (mem r I J) P := by
  have hT := hW.p
  have hl := hc.l
  have hb : ∀ {k i : Nat}, 1 ≤ k → k ≤ 5 → 0 < flt tp k i ∧ flt tp k i < 2 ^ 20 := fun h1 h2 => flt_b hl h1 h2
  unfold peP at hE
  refine e32 ?_
  simp only [mKm, mNm, mIm, mIf, mJm, mJf, mRm, sIm, sJm, rwIm, rwJm, kN, nN, rN, true_and, hp.p]
  by_cases q0 : 6 ≤ nP s.1
  · rw [if_pos q0] at hE
    exact ifn (nI_nlt (b := 6) q0 (by omega)) (n98e (k := 5) hc (fun I1 f1 h1 => ⟨Or.inl rfl, hE.fl rfl (hb (by decide) (by decide)).1 f1.cr h1⟩))
  rw [if_neg q0] at hE
  refine ifp (nI_lt (b := 6) (by omega) (by decide)) (n90 hc (fun I1 J1 f1 c1 => ⟨rfl, rfl, rfl, ?_⟩))
  have p1 := hp.cl f1
  refine n31 c1 p1 hW (fun q1 q2 => ifp (by decide) ?_) (fun q1 I2 f2 h2 => ifn (fun z => z rfl) ?_) (fun q1 q2 I2 f2 h2 => ifn (fun z => z rfl) ?_)
  rotate_left
  · rw [if_pos q1] at hE; exact hE.fl rfl (hb (by decide) (by decide)).1 (f1.cr.trans f2) h2
  · rw [if_neg (by rw [q1]; decide), if_pos (hasN_t.mpr q2)] at hE; exact hE.fl rfl (hb (by decide) (by decide)).1 (f1.cr.trans f2) h2
  rw [if_neg (by rw [q1]; decide), if_neg (fun z => q2 (hasN_t.mp z))] at hE
  have e1 : I1 21 1 = nI (nP s.1) := p1.p
  have t6 : nP s.1 < 6 := by omega
  simp only [mKm, mNm, mIm, mIf, mJm, mJf, mRm, sIm, sJm, rwIm, rwJm, kN, nN, rN, true_and, e1, ix t6 (by decide), c1.w (nmB_1 q1)]
  have c2 : CRD I1 (u2 J1 28 (nP s.1) (lN (eB 32 (rkF tp (j + 1))))) tp (j + 1) := c1.fr rfl rfl (by rw [u2n (by decide)])
  have g2 : Fcr I I1 J (u2 J1 28 (nP s.1) (lN (eB 32 (rkF tp (j + 1))))) := f1.cr.trans (Fcr.setJ (Or.inr rfl))
  refine b32_40_53 ⟨rfl, n90 c2 (fun I3 J3 f3 c3 => ⟨rfl, rfl, rfl, ?_⟩)⟩
  have g3 := g2.trans f3.cr
  have e9 : wm 6 (wiF tp (j + 2)) = if 19 ≤ wiF tp (j + 2) ∧ wiF tp (j + 2) ≤ 22 then wiF tp (j + 2) - 18 else 0 := rfl
  refine n100 (s := 6) c3 (by decide) (fun q3 I4 J4 f4 c4 => ?_) (fun q3 I4 f4 h4 => ?_)
  rotate_left
  · have q3' : inW tp 18 4 (j + 2) = false := by
      cases e : inW tp 18 4 (j + 2) with
      | false => rfl
      | true =>
        have := inW_b e
        rw [show j + 1 + 1 = j + 2 from rfl, e9, if_pos (by omega)] at q3
        omega
    rw [if_pos q3'] at hE
    have hb1 := hb (k := 1) (i := j + 2) (by decide) (by decide)
    have e4 : u2 I4 26 (nP s.1) (-1) 2 4 = nI (flt tp 1 (j + 2)) := by rw [u2n (by decide)]; exact h4
    simp only [mKm, mNm, mIm, mIf, mJm, mJf, mRm, sIm, sJm, rwIm, rwJm, kN, nN, rN, true_and, ix t6 (by decide), e4]
    exact ifp (nI_ne0 hb1.1 (by omega)) ⟨_, rfl, hE.fl rfl hb1.1 ((g3.trans f4).trans (Fcr.set (by decide))) e4⟩
  have q3' : 19 ≤ wiF tp (j + 2) ∧ wiF tp (j + 2) ≤ 22 := by
    by_cases e : 19 ≤ wiF tp (j + 2) ∧ wiF tp (j + 2) ≤ 22
    · exact e
    · rw [show j + 1 + 1 = j + 2 from rfl, e9, if_neg e] at q3; exact absurd rfl q3
  have ew : wm 6 (wiF tp (j + 1 + 1)) - 1 = wiF tp (j + 2) - 19 := by
    rw [show j + 1 + 1 = j + 2 from rfl, e9, if_pos q3']; omega
  rw [if_neg (fun z => inW_n z (by omega))] at hE
  rw [ew]
  have e4 : u2 I4 26 (nP s.1) (nI (wiF tp (j + 2) - 19)) 2 4 = 0 := by rw [u2n (by decide)]; exact c4.2.2.2
  have c5 : CRD (u2 I4 26 (nP s.1) (nI (wiF tp (j + 2) - 19))) J4 tp (j + 3) := c4.fr (by rw [u2n (by decide)]) (by rw [u2n (by decide)]) rfl
  have g5 : Fcr I (u2 I4 26 (nP s.1) (nI (wiF tp (j + 2) - 19))) J J4 := (g3.trans f4.cr).trans (Fcr.set (by decide))
  simp only [mKm, mNm, mIm, mIf, mJm, mJf, mRm, sIm, sJm, rwIm, rwJm, kN, nN, rN, true_and, ix t6 (by decide), e4]
  refine ifn (fun z => z (by first | exact rfl | exact trivial)) (n101 (s := 7) c5 (by decide) (fun q4 I6 J6 f6 c6 => ifp (by decide) ?_) (fun q4 I6 f6 h6 => ifn (fun z => z rfl) ⟨_, rfl, ?_⟩))
  rotate_left
  · rw [if_pos (show wiF tp (j + 3) ≠ 5 from q4)] at hE; exact hE.fl rfl (hb (by decide) (by decide)).1 (g5.trans f6) h6
  rw [if_neg (fun z => z q4)] at hE
  simp only [mKm, mNm, mIm, mIf, mJm, mJf, mRm, sIm, sJm, rwIm, rwJm, kN, nN, rN, true_and]
  refine n103 (lo := 0) (hi := 30) c6 (by decide) (by decide) (fun q7 I10 J10 f10 c10 => ?_) (fun q7 I10 f10 h10 => ?_)
  rotate_left
  · rw [if_pos q7] at hE
    have hb5 : 0 < numP tp 0 30 (j + 4) ∧ numP tp 0 30 (j + 4) < 2 ^ 20 := num_b hl q7
    simp only [mKm, mNm, mIm, mIf, mJm, mJf, mRm, sIm, sJm, rwIm, rwJm, kN, nN, rN, true_and, ix t6 (by decide)]
    refine b32_90_119 ?_
    have e10 : ∀ v, u2 (u2 I10 27 (nP s.1) (-1)) 21 1 v 2 4 = nI (numP tp 0 30 (j + 4)) := fun v => by rw [u2n (by decide), u2n (by decide)]; exact h10
    simp only [mKm, mNm, mIm, mIf, mJm, mJf, mRm, sIm, sJm, rwIm, rwJm, kN, nN, rN, true_and, e10]
    exact ifp (nI_ne0 hb5.1 (by omega)) ⟨_, rfl, hE.fl rfl hb5.1 ((((g5.trans f6.cr).trans f10).trans (Fcr.set (by decide))).trans (Fcr.set (by decide))) (e10 _)⟩
  rw [if_neg (fun z => z q7)] at hE
  have ch : ∀ a, 3 ≤ a → a ≠ 26 → I10 a = I a := fun a h1 h2 => by
    rw [f10.1 a (by omega), f6.1 a (by omega), u2n h2, f4.1 a (by omega), f3.1 a (by omega), f1.1 a (by omega)]
  have e21 : u2 I10 27 (nP s.1) (nI (nuF tp (j + 4))) 21 1 = nI (nP s.1) := by rw [u2n (by decide), ch 21 (by decide) (by decide)]; exact hp.p
  simp only [mKm, mNm, mIm, mIf, mJm, mJf, mRm, sIm, sJm, rwIm, rwJm, kN, nN, rN, true_and, ix t6 (by decide), e21, nI_1]
  refine b32_90_119 ?_
  have e10 : u2 (u2 I10 27 (nP s.1) (nI (nuF tp (j + 4)))) 21 1 (nI (nP s.1 + 1)) 2 4 = 0 := by rw [u2n (by decide), u2n (by decide)]; exact c10.2.2.2
  simp only [mKm, mNm, mIm, mIf, mJm, mJf, mRm, sIm, sJm, rwIm, rwJm, kN, nN, rN, true_and, e10]
  refine ifn (fun z => z (by first | exact rfl | exact trivial)) ⟨_, rfl, hE.1 rfl _ _ ((((g5.trans f6.cr).trans f10.cr).trans (Fcr.set (by decide))).trans (Fcr.set (by decide))) (c10.fr (by rw [u2n (by decide), u2n (by decide)]) (by rw [u2n (by decide), u2n (by decide)]) rfl) (hp.pers hW u2s (fun x hx => ?_) ?_ ?_ (fun x h1 h2 => ?_) ?_ ?_)⟩
  · rw [u2i (by omega), u2n (by decide), ch 21 (by decide) (by decide)]
  · rw [u2n (by decide), u2n (by decide), f10.1 26 (by decide), f6.1 26 (by decide)]
    funext x
    by_cases e : x = nP s.1
    · rw [e, u2s, u2s]
    · rw [u2i e, u2i e, f4.1 26 (by decide), f3.1 26 (by decide), f1.1 26 (by decide)]
  · rw [u2n (by decide)]
    funext x
    by_cases e : x = nP s.1
    · rw [e, u2s, u2s]
    · rw [u2i e, u2i e, ch 27 (by decide) (by decide)]
  · rw [u2n (by omega), u2n (by omega), ch x (by omega) (by omega)]
  · rw [f10.2.2.2 28 (by decide), f6.2.2.2 28 (by decide), f4.2.2.2 28 (by decide), f3.2.2.2 28 (by decide)]
    funext x
    by_cases e : x = nP s.1
    · rw [e, u2s, u2s]
    · rw [u2i e, u2i e, f1.2.2.2 28 (by decide)]
  · rw [f10.2.2.2 25 (by decide), f6.2.2.2 25 (by decide), f4.2.2.2 25 (by decide), f3.2.2.2 25 (by decide), u2n (by decide), f1.2.2.2 25 (by decide)]
end
