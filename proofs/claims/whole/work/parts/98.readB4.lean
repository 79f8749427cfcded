/-! the other side: persons, and what stands once -/
section
variable {G : GG} {d : Nat} {P : Int32 → mm_M → Prop} {Pv : mm_M → Prop} {Q : Option Value → mm_M → Prop} {r : Nat → Nat} {I : Nat → Nat → Int32} {J : Nat → Nat → Int64} {π : PLN} {σ : Nat → Nat → Nat} {tp : List Nat} {y i j n f N : Nat} {nm : NMT} {s : OS} {I' I2 : Nat → Nat → Int32} {J' J2 : Nat → Nat → Int64}
theorem m176p (h : RT I J tp N j) (hw1 : wiF tp j = 4) (hp : RPO I J s) (hW : WO s) (hE : HM Pv r I J tp N (peP tp j s)) : CV G (d + 5) 176 [.ref 247] (mem r I J) Pv := by
  have hT := hW.t
  have hP := hW.p
  have hl := h.l
  have hlen := hW.2.2.2.2
  have hs0 : soF tp j ≠ 0 := wi_0 (by omega)
  have hb : ∀ {k i : Nat}, 1 ≤ k → k ≤ 5 → 0 < flt tp k i ∧ flt tp k i < 2 ^ 20 := fun h1 h2 => flt_b hl h1 h2
  have e56 : (74 : Int32) + 2 * nI (nP s.1) = nI (74 + 2 * nP s.1) := by show nI 74 + nI 2 * nI (nP s.1) = _; rw [pk_mul, nI_add]
  have a1 := hp.1.2.1
  unfold peP at hE
  refine e176 ⟨rfl, m177 (k := 0) h (by decide) ?_⟩
  rw [hw1]
  refine ifp (by decide) ⟨rfl, m177 (k := 3) h (by decide) ?_⟩
  rw [hw1]
  refine ifn (by decide) ?_
  simp only [mKm, mNm, mIm, mIf, mJm, mJf, mRm, sIm, sJm, rwIm, rwJm, kN, nN, rN, true_and, a1, e56]
  have ff : ∀ (I' : Nat → Nat → Int32) (J' : Nat → Nat → Int64) (f : Nat), FA I' f → Pv (mem r I' J') → ∀ v v' : Int32, BB G (d + 4) none P176 (QV Pv) S176_92_139 139 [.ref 247, .int (nI (74 + 2 * nP s.1)), .int v, .int v', jk] [] (mem r I' J') := fun I' J' f hF hh v v' =>
    b176_92_139 ⟨rfl, ifp hF.ne ⟨rfl, hh⟩⟩
  have fk : ∀ (I' : Nat → Nat → Int32) (J' : Nat → Nat → Int64) (f : Nat), FA I' f → Pv (mem r I' J') → ∀ v : Int32, CI G (d + 4) 184 [.ref 247, .int 4, .int 0, .int 30] (mem r I' J') (fun v5 N6 => BB G (d + 4) none P176 (QV Pv) S176_92_139 139 [.ref 247, .int (nI (74 + 2 * nP s.1)), .int v, .int v5, jk] [] N6) := fun I' J' f hF hh v => m184f hF (ff I' J' f hF hh v 0)
  refine ⟨(ix (show 51 < 100 by decide) (by decide)).1, b176_92_113 ⟨rfl, m178 (x := 1) (b := 20) (c := nP s.1) (nm := s.2.1) h (by decide) (by decide) a1 hP hs0 hp.na (by omega) (fun z => by omega) hW.wc (fun q0 q1 q2 => ⟨rfl, ?_⟩) (fun q0 => ⟨rfl, ?_⟩) (fun q0 q1 => ⟨rfl, ?_⟩) (fun q0 q1 q2 => ⟨rfl, ?_⟩)⟩⟩
  rotate_left
  · rw [if_pos q0] at hE
    have hF := FA.set (I := I) (hb (k := 5) (i := j) (by decide) (by decide))
    exact m183f hF ⟨rfl, fk _ _ _ hF (hE.fl rfl (Fmr.s47 (by decide)) hF) 0⟩
  · rw [if_neg (by omega), if_pos q1] at hE
    have hF := FA.set (I := u2 I 247 7 (nI (j + 1))) (hb (k := 1) (i := j + 1) (by decide) (by decide))
    exact m183f hF ⟨rfl, fk _ _ _ hF (hE.fl rfl ((Fmr.s47 (by decide)).trans (Fmr.s47 (by decide))) hF) 0⟩
  · rw [if_neg (by omega), if_neg (by rw [q1]; decide), if_pos (hasN_t.mpr q2)] at hE
    have hF := FA.set (I := u2 I 247 7 (nI (j + 1))) (hb (k := 3) (i := j + 1) (by decide) (by decide))
    exact m183f hF ⟨rfl, fk _ _ _ hF (hE.fl rfl ((Fmr.s47 (by decide)).trans (Fmr.s47 (by decide))) hF) 0⟩
  rw [if_neg (by omega), if_neg (by rw [q1]; decide), if_neg (fun z => q2 (hasN_t.mp z))] at hE
  have hs1 := nmB_1 q1
  have g1 : Fmr I (nmI I 1 (nP s.1) s.2.1.length 20 j) J (u2 J 257 s.2.1.length (lN (eB 37 (rkF tp (j + 1))))) := nmI_f
  have c1 : RT (nmI I 1 (nP s.1) s.2.1.length 20 j) (u2 J 257 s.2.1.length (lN (eB 37 (rkF tp (j + 1))))) tp N (j + 2) := nmI_r h hs0 (by omega)
  refine m183 (fr := 18) (many := 4) c1 (by decide) (fun q3 => ⟨rfl, ?_⟩) (fun q3 => ⟨rfl, ?_⟩)
  rotate_left
  · rw [if_pos q3] at hE
    have hF := FA.set (I := nmI I 1 (nP s.1) s.2.1.length 20 j) (hb (k := 1) (i := j + 2) (by decide) (by decide))
    exact fk _ _ _ hF (hE.fl rfl (g1.trans (Fmr.s47 (by decide))) hF) 0
  rw [if_neg (by rw [q3]; decide)] at hE
  have i3 := inW_b q3
  have c2 := c1.adv (wi_0 (show wiF tp (j + 2) ≠ 0 by omega))
  have g2 := g1.trans (Fmr.s47 (k := 7) (v := nI (j + 2 + 1)) (by decide))
  refine m184 (k := 4) (lo := 0) (hi := 30) c2 (by decide) (by decide) (by decide) (fun q6 q7 I4 f4 c4 k4 y4 y5 => ?_) (fun q4 I3 f3 F3 => ?_) (fun q4 q5 I3 f3 F3 => ?_)
  rotate_left
  · rw [if_pos q4] at hE
    exact ff _ _ _ F3 (hE.fl rfl (g2.trans f3.mr) F3) _ _
  · rw [if_neg (fun z => z q4), if_pos q5] at hE
    exact ff _ _ _ F3 (hE.fl rfl (g2.trans f3.mr) F3) _ _
  rw [if_neg (fun z => z q6), if_neg (fun z => z q7)] at hE
  have g4 := g2.trans f4.mr
  have e1 : nI (74 + 2 * nP s.1) + 1 = nI (74 + 2 * nP s.1 + 1) := nI_1 _
  have ek : wiF tp (j + 2) - 18 - 1 = wiF tp (j + 2) - 19 := by omega
  refine b176_92_139 ?_
  simp only [mKm, mNm, mIm, mIf, mJm, mJf, mRm, sIm, sJm, rwIm, rwJm, kN, nN, rN, true_and, c4.ok, ix (show 74 + 2 * nP s.1 < 100 by omega) (by decide), e1, ix (show 74 + 2 * nP s.1 + 1 < 100 by omega) (by decide), ek]
  refine ifn (fun z => z (by first | exact rfl | exact trivial)) (b176_92_162 ?_)
  have ch : ∀ a, a ≠ 247 → a ≠ 254 → a ≠ 255 → I4 a = nmI I 1 (nP s.1) s.2.1.length 20 j a := fun a z1 z2 z3 => by rw [f4.1 a z1 z2 z3, u2n z1]
  have ch7 : ∀ x, x ≠ 7 → I4 247 x = nmI I 1 (nP s.1) s.2.1.length 20 j 247 x := fun x z => by rw [k4 x z, u2i z]
  have fin := hE.1 rfl (u2 (u2 I4 253 (74 + 2 * nP s.1) (nI (wiF tp (j + 2) - 19))) 253 (74 + 2 * nP s.1 + 1) (nI (nuF tp (j + 4)))) (u2 J 257 s.2.1.length (lN (eB 37 (rkF tp (j + 1))))) ((g4.trans (Fmr.s53 (by omega))).trans (Fmr.s53 (by omega))) (c4.fm (by rw [u2n (by decide), u2n (by decide)]) (by rw [u2n (by decide), u2n (by decide)]) (by rw [u2n (by decide), u2n (by decide)]) (by rw [u2n (by decide), u2n (by decide)]) (fun _ _ => rfl)) (hp.pers hT (by omega) ?_ ?_ u2s (fun x z1 z2 => ?_) ?_ ?_ ?_ ?_ ?_ ?_ ?_)
  · exact ⟨rfl, fin⟩
  · rw [u2i (by omega), u2i (by omega), ch 253 (by decide) (by decide) (by decide)]; unfold nmI; rw [u2s]
  · rw [u2i (by omega)]; exact u2s
  · rw [u2i (by omega), u2i (by omega), ch 253 (by decide) (by decide) (by decide)]; unfold nmI; rw [u2i (by omega), u2n (by decide), u2n (by decide), u2n (by decide), u2n (by decide)]
  · rw [u2n (by decide), u2n (by decide), ch7 13 (by decide)]; unfold nmI; rw [u2n (by decide), u2i (by decide), u2i (by decide), u2n (by decide), u2i (by decide)]
  · rw [u2n (by decide), u2n (by decide), ch7 20 (by decide)]; unfold nmI; rw [u2n (by decide), u2i (by decide), u2i (by decide), u2n (by decide), u2i (by decide)]
  · rw [u2n (by decide), u2n (by decide), y4, u2n (by decide)]; unfold nmI; rw [u2n (by decide), u2n (by decide), u2n (by decide), u2n (by decide), u2n (by decide)]
  · rw [u2n (by decide), u2n (by decide), y5, u2n (by decide)]; unfold nmI; rw [u2n (by decide), u2n (by decide), u2n (by decide), u2n (by decide), u2n (by decide)]
  · rw [u2n (by decide), u2n (by decide), ch7 19 (by decide)]; unfold nmI; rw [u2n (by decide), u2i (by decide), u2s]
  · rw [u2n (by decide), u2n (by decide), ch 259 (by decide) (by decide) (by decide)]; unfold nmI; rw [u2n (by decide), u2n (by decide), u2n (by decide)]
    funext x
    by_cases e : x = s.2.1.length
    · rw [e, u2s, u2s]
    · rw [u2i e, u2i e, u2n (by decide)]
  · rfl
end
