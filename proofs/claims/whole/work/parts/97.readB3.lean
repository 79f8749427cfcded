/-! the other side: trees and persons -/
section
variable {G : GG} {d : Nat} {P : Int32 → mm_M → Prop} {Pv : mm_M → Prop} {Q : Option Value → mm_M → Prop} {r : Nat → Nat} {I : Nat → Nat → Int32} {J : Nat → Nat → Int64} {π : PLN} {σ : Nat → Nat → Nat} {tp : List Nat} {y i j n f N : Nat} {nm : NMT} {s : OS} {I' I2 : Nat → Nat → Int32} {J' J2 : Nat → Nat → Int64}
theorem RPO.tree {k l a : Nat} {w : List Nat} (h : RPO I J s) (hT : nT s.1 < 6) (hP : nP s.1 ≤ 6) (r50 : I' 253 50 = nI (nT s.1 + 1)) (ra : I' 253 (56 + 3 * nT s.1 + 0) = nI k) (rb : I' 253 (56 + 3 * nT s.1 + 1) = nI l) (rc : I' 253 (56 + 3 * nT s.1 + 2) = nI a) (ro : ∀ x, x ≠ 50 → ¬ (56 + 3 * nT s.1 ≤ x ∧ x ≤ 58 + 3 * nT s.1) → I' 253 x = I 253 x) (h13 : I' 247 13 = I 247 13) (h20 : I' 247 20 = I 247 20) (h254 : I' 254 = I 254) (h255 : I' 255 = I 255) (h19 : I' 247 19 = nI (s.2.1.length + 1)) (h259 : I' 259 = u2 I 259 s.2.1.length (nI (nT s.1)) 259) (hJ : J' 257 = u2 J 257 s.2.1.length (lN (eB 37 w)) 257) : RPO I' J' (setT s.1 k l a, s.2.1 ++ [(w, nT s.1)], s.2.2) := by
  obtain ⟨⟨a1, a2, a3, a4, a5⟩, b1, b2, b3, b4, b5, b6⟩ := h
  refine ⟨⟨r50, ?_, ?_, ?_, ?_⟩, fun i hi => ?_, fun t ht => ?_, fun p hp => ?_, ?_, ⟨?_, fun i hi => ?_⟩, ?_⟩
  · rw [ro 51 (by decide) (by omega)]; exact a2
  · rw [ro 52 (by decide) (by omega)]; exact a3
  · rw [ro 53 (by decide) (by omega)]; exact a4
  · rw [ro 54 (by decide) (by omega)]; exact a5
  · rw [ro (86 + i) (by omega) (by omega)]; exact b1 i hi
  · have ht : t < nT s.1 + 1 := ht
    show I' 253 (56 + 3 * t + 0) = nI ((setT s.1 k l a).1 5 t) ∧ I' 253 (56 + 3 * t + 1) = nI ((setT s.1 k l a).1 6 t) ∧ I' 253 (56 + 3 * t + 2) = nI ((setT s.1 k l a).1 7 t)
    rw [setT_5, setT_6, setT_7]
    by_cases e : t = nT s.1
    · rw [if_pos e, if_pos e, if_pos e, e]; exact ⟨ra, rb, rc⟩
    · rw [if_neg e, if_neg e, if_neg e, ro _ (by omega) (by omega), ro _ (by omega) (by omega), ro _ (by omega) (by omega)]; exact b2 t (by omega)
  · have hp' : p < nP s.1 := hp
    rw [ro _ (by omega) (by omega), ro _ (by omega) (by omega)]; exact b3 p hp
  · rw [ro 55 (by decide) (by omega), h13, h254, h255]; exact b4
  · rw [h19, List.length_append]; rfl
  · rw [hJ, h259]
    rcases ap_cs hi with ⟨hk, e1, e2⟩ | ⟨hk, e1, e2⟩
    · rw [e1, e2, u2i (by omega), u2i (by omega)]; exact b5.2 i hk
    · rw [e1, e2, hk, u2s, u2s]; exact ⟨rfl, rfl⟩
  · rw [h20]; exact b6
theorem RPO.pers {k l : Nat} {w : List Nat} (h : RPO I J s) (hT : nT s.1 ≤ 6) (hP : nP s.1 < 6) (r51 : I' 253 51 = nI (nP s.1 + 1)) (ra : I' 253 (74 + 2 * nP s.1 + 0) = nI k) (rb : I' 253 (74 + 2 * nP s.1 + 1) = nI l) (ro : ∀ x, x ≠ 51 → ¬ (74 + 2 * nP s.1 ≤ x ∧ x ≤ 75 + 2 * nP s.1) → I' 253 x = I 253 x) (h13 : I' 247 13 = I 247 13) (h20 : I' 247 20 = I 247 20) (h254 : I' 254 = I 254) (h255 : I' 255 = I 255) (h19 : I' 247 19 = nI (s.2.1.length + 1)) (h259 : I' 259 = u2 I 259 s.2.1.length (nI (20 + nP s.1)) 259) (hJ : J' 257 = u2 J 257 s.2.1.length (lN (eB 37 w)) 257) : RPO I' J' (setP s.1 k l, s.2.1 ++ [(w, 20 + nP s.1)], s.2.2) := by
  obtain ⟨⟨a1, a2, a3, a4, a5⟩, b1, b2, b3, b4, b5, b6⟩ := h
  refine ⟨⟨?_, r51, ?_, ?_, ?_⟩, fun i hi => ?_, fun t ht => ?_, fun p hp => ?_, ?_, ⟨?_, fun i hi => ?_⟩, ?_⟩
  · rw [ro 50 (by decide) (by omega)]; exact a1
  · rw [ro 52 (by decide) (by omega)]; exact a3
  · rw [ro 53 (by decide) (by omega)]; exact a4
  · rw [ro 54 (by decide) (by omega)]; exact a5
  · rw [ro (86 + i) (by omega) (by omega)]; exact b1 i hi
  · have ht' : t < nT s.1 := ht
    rw [ro _ (by omega) (by omega), ro _ (by omega) (by omega), ro _ (by omega) (by omega)]; exact b2 t ht
  · have hp : p < nP s.1 + 1 := hp
    show I' 253 (74 + 2 * p + 0) = nI ((setP s.1 k l).1 9 p) ∧ I' 253 (74 + 2 * p + 1) = nI ((setP s.1 k l).1 10 p)
    rw [setP_9, setP_10]
    by_cases e : p = nP s.1
    · rw [if_pos e, if_pos e, e]; exact ⟨ra, rb⟩
    · rw [if_neg e, if_neg e, ro _ (by omega) (by omega), ro _ (by omega) (by omega)]; exact b3 p (by omega)
  · rw [ro 55 (by decide) (by omega), h13, h254, h255]; exact b4
  · rw [h19, List.length_append]; rfl
  · rw [hJ, h259]
    rcases ap_cs hi with ⟨hk, e1, e2⟩ | ⟨hk, e1, e2⟩
    · rw [e1, e2, u2i (by omega), u2i (by omega)]; exact b5.2 i hk
    · rw [e1, e2, hk, u2s, u2s]; exact ⟨rfl, rfl⟩
  · rw [h20]; exact b6
theorem WO.wc (h : WO s) : ∀ i, i < s.2.1.length → wok (nW s.2.1 i) ∧ nC s.2.1 i < 100 := fun i hi => by
  have h1 := h.nn.2.1 i hi
  have := h.t
  have := h.p
  exact ⟨h1.1, by omega⟩
theorem nmI_f {x c l b : Nat} {v : Int64} : Fmr I (nmI I x c l b j) J (u2 J 257 l v) := ((((((Fmr.sJ).trans (Fmr.s47 (by decide))).trans Fmr.s59).trans (Fmr.s47 (by decide))).trans (Fmr.s47 (by decide))).trans (Fmr.s53 (by omega)))
theorem nmI_r {x c l b : Nat} {v : Int64} (h : RT I J tp N j) (h0 : soF tp j ≠ 0) (h1 : soF tp (j + 1) ≠ 0) : RT (nmI I x c l b j) (u2 J 257 l v) tp N (j + 2) := by
  have a := (h.adv h0).adv h1
  refine a.fm ?_ ?_ ?_ ?_ (fun a ha => u2n ha)
  · unfold nmI; rw [u2n (by decide), u2n (by decide), u2n (by decide), u2n (by decide), u2n (by decide), u2n (by decide), u2n (by decide)]
  · unfold nmI; rw [u2n (by decide), u2n (by decide), u2n (by decide), u2n (by decide), u2n (by decide), u2n (by decide), u2n (by decide)]
  · unfold nmI; rw [u2n (by decide), u2s, u2s]
  · unfold nmI; rw [u2n (by decide), u2i (by decide), u2i (by decide), u2n (by decide), u2i (by decide), u2i (by decide), u2i (by decide)]
theorem m176t (h : RT I J tp N j) (hw1 : wiF tp j = 1) (hp : RPO I J s) (hW : WO s) (hE : HM Pv r I J tp N (trP tp j s)) : CV G (d + 5) 176 [.ref 247] (mem r I J) Pv := by
  have hT := hW.t
  have hP := hW.p
  have hl := h.l
  have hlen := hW.2.2.2.2
  have hs0 : soF tp j ≠ 0 := wi_0 (by omega)
  have hb : ∀ {k i : Nat}, 1 ≤ k → k ≤ 5 → 0 < flt tp k i ∧ flt tp k i < 2 ^ 20 := fun h1 h2 => flt_b hl h1 h2
  have e56 : (56 : Int32) + 3 * nI (nT s.1) = nI (56 + 3 * nT s.1) := by show nI 56 + nI 3 * nI (nT s.1) = _; rw [pk_mul, nI_add]
  have a1 := hp.1.1
  unfold trP at hE
  refine e176 ⟨rfl, m177 (k := 0) h (by decide) ?_⟩
  rw [hw1]
  refine ifn (by decide) ?_
  simp only [mKm, mNm, mIm, mIf, mJm, mJf, mRm, sIm, sJm, rwIm, rwJm, kN, nN, rN, true_and, a1, e56]
  -- behind a fault
  have ff : ∀ (I' : Nat → Nat → Int32) (J' : Nat → Nat → Int64) (f : Nat), FA I' f → Fmr I I' J J' → (∀ (hf : Fmr I I' J J'), FA I' f → Pv (mem r I' J')) → ∀ v v' : Int32, BB G (d + 4) none P176 (QV Pv) S176_0_46 46 [.ref 247, .int (nI (56 + 3 * nT s.1)), .int v, .int v', jk] [] (mem r I' J') := fun I' J' f hF g hh v v' =>
    b176_0_46 ⟨rfl, m184f hF ⟨rfl, ifp hF.ne ⟨rfl, hh g hF⟩⟩⟩
  have fk : ∀ (I' : Nat → Nat → Int32) (J' : Nat → Nat → Int64) (f : Nat), FA I' f → Fmr I I' J J' → (∀ (hf : Fmr I I' J J'), FA I' f → Pv (mem r I' J')) → ∀ v : Int32, CI G (d + 4) 184 [.ref 247, .int 1, .int 0, .int 30] (mem r I' J') (fun v5 N6 => BB G (d + 4) none P176 (QV Pv) S176_0_46 46 [.ref 247, .int (nI (56 + 3 * nT s.1)), .int v, .int v5, jk] [] N6) := fun I' J' f hF g hh v => m184f hF (ff I' J' f hF g hh v 0)
  refine ⟨(ix (show 50 < 100 by decide) (by decide)).1, b176_0_21 ⟨rfl, m178 (x := 0) (b := 0) (c := nT s.1) (nm := s.2.1) h (by decide) (by decide) a1 hT hs0 hp.na (by omega) (fun z => by omega) hW.wc (fun q0 q1 q2 => ⟨rfl, ?_⟩) (fun q0 => ⟨rfl, ?_⟩) (fun q0 q1 => ⟨rfl, ?_⟩) (fun q0 q1 q2 => ⟨rfl, ?_⟩)⟩⟩
  rotate_left
  · rw [if_pos q0] at hE
    have hF := FA.set (I := I) (hb (k := 5) (i := j) (by decide) (by decide))
    exact m183f hF ⟨rfl, fk _ _ _ hF (Fmr.s47 (by decide)) (fun g F => hE.fl rfl g F) 0⟩
  · rw [if_neg (by omega), if_pos q1] at hE
    have hF := FA.set (I := u2 I 247 7 (nI (j + 1))) (hb (k := 1) (i := j + 1) (by decide) (by decide))
    exact m183f hF ⟨rfl, fk _ _ _ hF ((Fmr.s47 (by decide)).trans (Fmr.s47 (by decide))) (fun g F => hE.fl rfl g F) 0⟩
  · rw [if_neg (by omega), if_neg (by rw [q1]; decide), if_pos (hasN_t.mpr q2)] at hE
    have hF := FA.set (I := u2 I 247 7 (nI (j + 1))) (hb (k := 3) (i := j + 1) (by decide) (by decide))
    exact m183f hF ⟨rfl, fk _ _ _ hF ((Fmr.s47 (by decide)).trans (Fmr.s47 (by decide))) (fun g F => hE.fl rfl g F) 0⟩
  rw [if_neg (by omega), if_neg (by rw [q1]; decide), if_neg (fun z => q2 (hasN_t.mp z))] at hE
  have hs1 := nmB_1 q1
  have g1 : Fmr I (nmI I 0 (nT s.1) s.2.1.length 0 j) J (u2 J 257 s.2.1.length (lN (eB 37 (rkF tp (j + 1))))) := nmI_f
  have c1 : RT (nmI I 0 (nT s.1) s.2.1.length 0 j) (u2 J 257 s.2.1.length (lN (eB 37 (rkF tp (j + 1))))) tp N (j + 2) := nmI_r h hs0 (by omega)
  refine m183 (fr := 14) (many := 4) c1 (by decide) (fun q3 => ⟨rfl, ?_⟩) (fun q3 => ⟨rfl, ?_⟩)
  rotate_left
  · rw [if_pos q3] at hE
    have hF := FA.set (I := nmI I 0 (nT s.1) s.2.1.length 0 j) (hb (k := 1) (i := j + 2) (by decide) (by decide))
    exact fk _ _ _ hF (g1.trans (Fmr.s47 (by decide))) (fun g F => hE.fl rfl g F) 0
  rw [if_neg (by rw [q3]; decide)] at hE
  have i3 := inW_b q3
  have c2 := c1.adv (wi_0 (show wiF tp (j + 2) ≠ 0 by omega))
  have g2 := g1.trans (Fmr.s47 (k := 7) (v := nI (j + 2 + 1)) (by decide))
  refine m184 (k := 1) (lo := 0) (hi := 30) c2 (by decide) (by decide) (by decide) (fun q4 q5 I3 f3 c3 k3 x4 x5 => ?_) (fun q4 I3 f3 F3 => ?_) (fun q4 q5 I3 f3 F3 => ?_)
  rotate_left
  · rw [if_pos q4] at hE
    exact ff _ _ _ F3 (g2.trans f3.mr) (fun g F => hE.fl rfl g F) _ _
  · rw [if_neg (fun z => z q4), if_pos q5] at hE
    exact ff _ _ _ F3 (g2.trans f3.mr) (fun g F => hE.fl rfl g F) _ _
  rw [if_neg (fun z => z q4), if_neg (fun z => z q5)] at hE
  have g3 := g2.trans f3.mr
  refine b176_0_46 ⟨rfl, m184 (k := 2) (lo := 0) (hi := 20) c3 (by decide) (by decide) (by decide) (fun q6 q7 I4 f4 c4 k4 y4 y5 => ⟨rfl, ?_⟩) (fun q6 I4 f4 F4 => ⟨rfl, ifp F4.ne ⟨rfl, ?_⟩⟩) (fun q6 q7 I4 f4 F4 => ⟨rfl, ifp F4.ne ⟨rfl, ?_⟩⟩)⟩
  rotate_left
  · rw [if_pos q6] at hE
    exact hE.fl rfl (g3.trans f4.mr) F4
  · rw [if_neg (fun z => z q6), if_pos q7] at hE
    exact hE.fl rfl (g3.trans f4.mr) F4
  rw [if_neg (fun z => z q6), if_neg (fun z => z q7)] at hE
  have g4 := g3.trans f4.mr
  have e1 : nI (56 + 3 * nT s.1) + 1 = nI (56 + 3 * nT s.1 + 1) := nI_1 _
  have e2 : nI (56 + 3 * nT s.1) + 2 = nI (56 + 3 * nT s.1 + 2) := nI_add _ 2
  have ek : wiF tp (j + 2) - 14 - 1 = wiF tp (j + 2) - 15 := by omega
  simp only [mKm, mNm, mIm, mIf, mJm, mJf, mRm, sIm, sJm, rwIm, rwJm, kN, nN, rN, true_and, c4.ok, ix (show 56 + 3 * nT s.1 < 100 by omega) (by decide), e1, ix (show 56 + 3 * nT s.1 + 1 < 100 by omega) (by decide), ek]
  refine ifn (fun z => z (by first | exact rfl | exact trivial)) (b176_0_79 ?_)
  simp only [mKm, mNm, mIm, mIf, mJm, mJf, mRm, sIm, sJm, rwIm, rwJm, kN, nN, rN, true_and, e2, ix (show 56 + 3 * nT s.1 + 2 < 100 by omega) (by decide)]
  have ch : ∀ a, a ≠ 247 → a ≠ 254 → a ≠ 255 → I4 a = nmI I 0 (nT s.1) s.2.1.length 0 j a := fun a z1 z2 z3 => by rw [f4.1 a z1 z2 z3, f3.1 a z1 z2 z3, u2n z1]
  have ch7 : ∀ x, x ≠ 7 → I4 247 x = nmI I 0 (nT s.1) s.2.1.length 0 j 247 x := fun x z => by rw [k4 x z, k3 x z, u2i z]
  have fin := hE.1 rfl (u2 (u2 (u2 I4 253 (56 + 3 * nT s.1) (nI (wiF tp (j + 2) - 15))) 253 (56 + 3 * nT s.1 + 1) (nI (nuF tp (j + 4)))) 253 (56 + 3 * nT s.1 + 2) (nI (nuF tp (j + 6)))) (u2 J 257 s.2.1.length (lN (eB 37 (rkF tp (j + 1))))) (((g4.trans (Fmr.s53 (by omega))).trans (Fmr.s53 (by omega))).trans (Fmr.s53 (by omega))) (c4.fm (by rw [u2n (by decide), u2n (by decide), u2n (by decide)]) (by rw [u2n (by decide), u2n (by decide), u2n (by decide)]) (by rw [u2n (by decide), u2n (by decide), u2n (by decide)]) (by rw [u2n (by decide), u2n (by decide), u2n (by decide)]) (fun _ _ => rfl)) (hp.tree (by omega) hP ?_ ?_ ?_ u2s (fun x z1 z2 => ?_) ?_ ?_ ?_ ?_ ?_ ?_ ?_)
  · first | exact ⟨rfl, fin⟩ | exact fin
  · rw [u2i (by omega), u2i (by omega), u2i (by omega), ch 253 (by decide) (by decide) (by decide)]; unfold nmI; rw [u2s]
  · rw [u2i (by omega), u2i (by omega)]; exact u2s
  · rw [u2i (by omega), u2s]
  · rw [u2i (by omega), u2i (by omega), u2i (by omega), ch 253 (by decide) (by decide) (by decide)]; unfold nmI; rw [u2i (by omega), u2n (by decide), u2n (by decide), u2n (by decide), u2n (by decide)]
  · rw [u2n (by decide), u2n (by decide), u2n (by decide), ch7 13 (by decide)]; unfold nmI; rw [u2n (by decide), u2i (by decide), u2i (by decide), u2n (by decide), u2i (by decide)]
  · rw [u2n (by decide), u2n (by decide), u2n (by decide), ch7 20 (by decide)]; unfold nmI; rw [u2n (by decide), u2i (by decide), u2i (by decide), u2n (by decide), u2i (by decide)]
  · rw [u2n (by decide), u2n (by decide), u2n (by decide), y4, x4, u2n (by decide)]; unfold nmI; rw [u2n (by decide), u2n (by decide), u2n (by decide), u2n (by decide), u2n (by decide)]
  · rw [u2n (by decide), u2n (by decide), u2n (by decide), y5, x5, u2n (by decide)]; unfold nmI; rw [u2n (by decide), u2n (by decide), u2n (by decide), u2n (by decide), u2n (by decide)]
  · rw [u2n (by decide), u2n (by decide), u2n (by decide), ch7 19 (by decide)]; unfold nmI; rw [u2n (by decide), u2i (by decide), u2s]
  · rw [u2n (by decide), u2n (by decide), u2n (by decide), ch 259 (by decide) (by decide) (by decide)]; unfold nmI; rw [u2n (by decide), u2n (by decide), u2n (by decide)]
    funext x
    by_cases e : x = s.2.1.length
    · rw [e, u2s, u2s, Nat.zero_add]
    · rw [u2i e, u2i e, u2n (by decide)]
  · rfl
end
