/-! morning: a line, on the other side: the kinds -/
section
variable {G : GG} {d : Nat} {P : Int32 → mm_M → Prop} {Pv : mm_M → Prop} {Q : Option Value → mm_M → Prop} {r : Nat → Nat} {I : Nat → Nat → Int32} {J : Nat → Nat → Int64} {π : PLN} {σ : Nat → Nat → Nat} {tp : List Nat} {y i j n f N : Nat} {nm : NMT} {ln : LN} {I' I2 : Nat → Nat → Int32} {J' J2 : Nat → Nat → Int64}
theorem m64 (h : RT I J tp N j) (q1 : 10 ≤ wiF tp j ∧ wiF tp j ≤ 14) (hl40 : ln.length < 40) (hla : LBs I ln) (hn : NB I J nm) (hw : WN π nm) (hT : nT π ≤ 6) (hP : nP π ≤ 6) (hE : NXT G (d + 5) P r I J tp N ln.length (mlP tp nm j ln)) : XX G (d + 5) (some .int) P199 (QI P) 64 [.ref 247, .int (nI ln.length), .int (nI (wiF tp j - 10)), jk] [] (mem r I J) := by
  have hl := h.l
  have hs0 : soF tp j ≠ 0 := wi_0 (by omega)
  have e3 : (125 : Int32) + 3 * nI ln.length = nI (125 + 3 * ln.length) := by show nI 125 + nI 3 * nI ln.length = _; rw [pk_mul, nI_add]
  have e31 : nI (125 + 3 * ln.length) + 1 = nI (125 + 3 * ln.length + 1) := nI_1 _
  have e32 : nI (125 + 3 * ln.length) + 2 = nI (125 + 3 * ln.length + 2) := nI_add _ 2
  have i0 := ix (show 125 + 3 * ln.length < 250 by omega) (by decide)
  have i1 := ix (show 125 + 3 * ln.length + 1 < 250 by omega) (by decide)
  have i2 := ix (show 125 + 3 * ln.length + 2 < 250 by omega) (by decide)
  have i8 : (Int8.ofInt (-2)).toInt32 = -2 := by decide
  have hib : ∀ {b w}, idF b nm w ≤ 6 := fun {b w} => by have := id_b (w := w) (b := b) hw hT hP; split at this <;> omega
  have nb : ∀ {b no i}, naP tp nm b no i ≠ 0 → 0 < naP tp nm b no i ∧ naP tp nm b no i < 2 ^ 20 := fun z => ⟨by omega, naP_b hl⟩
  unfold mlP at hE
  rw [if_neg (fun z => z q1), if_neg (by omega)] at hE
  refine x199_64 ?_
  simp only [mKm, mNm, mIm, mIf, mJm, mJf, mRm, sIm, sJm, rwIm, rwJm, kN, nN, rN, true_and, h.at, nI_1, e3, i0]
  -- the line's first word is laid down
  have c1 : ∀ k, RT (u2 (u2 I 247 7 (nI (j + 1))) 260 (125 + 3 * ln.length) k) J tp N (j + 1) := fun k => (h.adv hs0).s60
  have g1 : ∀ k, Fmn I (u2 (u2 I 247 7 (nI (j + 1))) 260 (125 + 3 * ln.length) k) := fun k => Fmn.s7.trans (Fmn.s60 (by omega))
  have old : ∀ (k : Int32) (i : Nat), i < 125 + 3 * ln.length → u2 (u2 I 247 7 (nI (j + 1))) 260 (125 + 3 * ln.length) k 260 i = I 260 i := fun k i hi => by rw [u2i (by omega), u2n (by decide)]
  refine b199_64_88 ?_
  by_cases q14 : wiF tp j = 14
  · rw [if_pos q14] at hE
    rw [q14]
    refine ⟨rfl, ifn (by decide) ?_⟩
    simp only [mKm, mNm, mIm, mIf, mJm, mJf, mRm, sIm, sJm, rwIm, rwJm, kN, nN, rN, true_and, e31, i1]
    refine b199_121_122 ⟨rfl, ifp (by decide) (ifp (by decide) (ifp (by decide) ?_))⟩
    simp only [mKm, mNm, mIm, mIf, mJm, mJf, mRm, sIm, sJm, rwIm, rwJm, kN, nN, rN, true_and, e32, i2]
    refine b199_186_188 ⟨rfl, ?_⟩
    rw [nI_1]
    refine hE.1 rfl _ (((g1 _).trans (Fmn.s60 (by omega))).trans (Fmn.s60 (by omega))) ((c1 _).s60).s60 (hla.add (fun i hi => ?_) ?_ (fun z => absurd rfl z) (fun z => absurd z (by decide)))
    · rw [u2i (by omega), u2i (by omega)]; exact old _ i hi
    · rw [u2i (by omega), u2i (by omega), u2s]
  rw [if_neg q14] at hE
  by_cases q10 : wiF tp j = 10
  · rw [q10] at hE ⊢
    have hE : NXT G (d + 5) P r I J tp N ln.length (if naP tp nm true 0 (j + 1) ≠ 0 then (naP tp nm true 0 (j + 1), j, ln) else if naP tp nm false 0 (j + 2) ≠ 0 then (naP tp nm false 0 (j + 2), j, ln) else (0, j + 3, ln ++ [(0, idF true nm (rkF tp (j + 1)) - 1, idF false nm (rkF tp (j + 2)) - 1)])) := hE
    refine ⟨rfl, ifp (by decide) (ifn (by decide) ⟨rfl, m200 (b := true) (no := 0) (c1 _) (hn.mn (g1 _)) hw hT hP i8 (by decide) (fun z1 => ?_) (fun z1 => ?_)⟩)⟩
    · rw [if_neg (fun w => w z1)] at hE
      have a1 := naP_0 hl z1
      simp only [mKm, mNm, mIm, mIf, mJm, mJf, mRm, sIm, sJm, rwIm, rwJm, kN, nN, rN, true_and, e31, i1, u2s]
      have c2 : ∀ v, RT (u2 (u2 (u2 (u2 I 247 7 (nI (j + 1))) 260 (125 + 3 * ln.length) (nI 0)) 247 7 (nI (j + 2))) 260 (125 + 3 * ln.length + 1) v) J tp N (j + 2) := fun v => ((c1 _).adv (by omega)).s60
      have g2 : ∀ v, Fmn I (u2 (u2 (u2 (u2 I 247 7 (nI (j + 1))) 260 (125 + 3 * ln.length) (nI 0)) 247 7 (nI (j + 2))) 260 (125 + 3 * ln.length + 1) v) := fun v => ((g1 _).trans Fmn.s7).trans (Fmn.s60 (by omega))
      refine ifn (by decide) ?_
      have go := m200 (G := G) (d := d + 1) (r := r) (P := fun v5 N6 => XX G (d + 5) (some .int) P199 (QI P) 187 [.ref 247, .int (nI ln.length), .int (nI 0), .int (nI (125 + 3 * ln.length))] [.int v5, .int (nI (125 + 3 * ln.length + 2)), .ref 260] N6) (b := false) (no := 0) (l := -2) (c2 (nI (idF true nm (rkF tp (j + 1)) - 1))) (hn.mn (g2 _)) hw hT hP rfl (by first | decide | exact Nat.le_trans hib (by decide)) (fun z2 => ?_) (fun z2 => ?_)
      · simp only [mKm, mNm, mIm, mIf, mJm, mJf, mRm, sIm, sJm, rwIm, rwJm, kN, nN, rN, true_and, e32, i8]
        first | exact go | exact ⟨rfl, go⟩ | exact ⟨i1.1, go⟩
      · rw [if_neg (fun w => w z2)] at hE
        have a2 := naP_0 hl z2
        refine x199_187 ?_
        simp only [mKm, mNm, mIm, mIf, mJm, mJf, mRm, sIm, sJm, rwIm, rwJm, kN, nN, rN, true_and, i2]
        rw [nI_1]
        refine hE.1 rfl _ (((g2 _).trans Fmn.s7).trans (Fmn.s60 (by omega))) (((c2 _).adv (by omega)).s60) (hla.add (fun i hi => ?_) ?_ (fun _ => ?_) (fun _ => u2s))
        · rw [u2i (by omega), u2n (by decide), u2i (by omega), u2n (by decide)]; exact old _ i hi
        · rw [u2i (by omega), u2n (by decide), u2i (by omega), u2n (by decide), u2s]
        · rw [u2i (by omega), u2n (by decide), u2s]
      · rw [if_pos z2] at hE
        exact fx187 (FA.set (nb z2)) (by omega) (fun I' hF' hw' => by obtain ⟨w, rfl⟩ := hw'; exact hE.2 z2 _ (((g2 _).trans Fmn.s8).trans (Fmn.s60 (by omega))) hF')
    · rw [if_pos z1] at hE
      have hF : ∀ v, FA (u2 (u2 (u2 (u2 I 247 7 (nI (j + 1))) 260 (125 + 3 * ln.length) (nI 0)) 247 8 (nI (naP tp nm true 0 (j + 1)))) 260 (125 + 3 * ln.length + 1) v) (naP tp nm true 0 (j + 1)) := fun v => (FA.set (nb z1)).s60
      simp only [mKm, mNm, mIm, mIf, mJm, mJf, mRm, sIm, sJm, rwIm, rwJm, kN, nN, rN, true_and, e31, i1, u2s]
      refine ifn (by decide) ?_
      have go : ∀ bb ll : Int32, CI G (d + 5) 200 [.ref 247, .int bb, .int ll] (mem r (u2 (u2 (u2 (u2 I 247 7 (nI (j + 1))) 260 (125 + 3 * ln.length) (nI 0)) 247 8 (nI (naP tp nm true 0 (j + 1)))) 260 (125 + 3 * ln.length + 1) 0) J) (fun v5 N6 => XX G (d + 5) (some .int) P199 (QI P) 187 [.ref 247, .int (nI ln.length), .int (nI 0), .int (nI (125 + 3 * ln.length))] [.int v5, .int (nI (125 + 3 * ln.length + 2)), .ref 260] N6) := fun bb ll => m200f (hF _) (fx187 (hF _) (by omega) (fun I' hF' hw' => by obtain ⟨w, rfl⟩ := hw'; exact hE.2 z1 _ ((((g1 _).trans Fmn.s8).trans (Fmn.s60 (by omega))).trans (Fmn.s60 (by omega))) hF'))
      simp only [mKm, mNm, mIm, mIf, mJm, mJf, mRm, sIm, sJm, rwIm, rwJm, kN, nN, rN, true_and, e32]
      first | exact go _ _ | exact ⟨rfl, go _ _⟩ | exact ⟨i1.1, go _ _⟩
  by_cases q11 : wiF tp j = 11
  · rw [q11] at hE ⊢
    have hE : NXT G (d + 5) P r I J tp N ln.length (if naP tp nm true 0 (j + 1) ≠ 0 then (naP tp nm true 0 (j + 1), j, ln) else if naP tp nm true (idF true nm (rkF tp (j + 1))) (j + 2) ≠ 0 then (naP tp nm true (idF true nm (rkF tp (j + 1))) (j + 2), j, ln) else (0, j + 3, ln ++ [(1, idF true nm (rkF tp (j + 1)) - 1, idF true nm (rkF tp (j + 2)) - 1)])) := hE
    refine ⟨rfl, ifp (by decide) (ifn (by decide) ⟨rfl, m200 (b := true) (no := 0) (c1 _) (hn.mn (g1 _)) hw hT hP i8 (by decide) (fun z1 => ?_) (fun z1 => ?_)⟩)⟩
    · rw [if_neg (fun w => w z1)] at hE
      have a1 := naP_0 hl z1
      simp only [mKm, mNm, mIm, mIf, mJm, mJf, mRm, sIm, sJm, rwIm, rwJm, kN, nN, rN, true_and, e31, i1, u2s]
      have c2 : ∀ v, RT (u2 (u2 (u2 (u2 I 247 7 (nI (j + 1))) 260 (125 + 3 * ln.length) (nI 1)) 247 7 (nI (j + 2))) 260 (125 + 3 * ln.length + 1) v) J tp N (j + 2) := fun v => ((c1 _).adv (by omega)).s60
      have g2 : ∀ v, Fmn I (u2 (u2 (u2 (u2 I 247 7 (nI (j + 1))) 260 (125 + 3 * ln.length) (nI 1)) 247 7 (nI (j + 2))) 260 (125 + 3 * ln.length + 1) v) := fun v => ((g1 _).trans Fmn.s7).trans (Fmn.s60 (by omega))
      refine ifp (by decide) (ifn (by decide) ?_)
      have go := m200 (G := G) (d := d + 1) (r := r) (P := fun v5 N6 => XX G (d + 5) (some .int) P199 (QI P) 187 [.ref 247, .int (nI ln.length), .int (nI 1), .int (nI (125 + 3 * ln.length))] [.int v5, .int (nI (125 + 3 * ln.length + 2)), .ref 260] N6) (b := true) (no := (idF true nm (rkF tp (j + 1)))) (l := nI (idF true nm (rkF tp (j + 1)) - 1)) (c2 (nI (idF true nm (rkF tp (j + 1)) - 1))) (hn.mn (g2 _)) hw hT hP (by rw [if_neg a1.2.1]) (by first | decide | exact Nat.le_trans hib (by decide)) (fun z2 => ?_) (fun z2 => ?_)
      · simp only [mKm, mNm, mIm, mIf, mJm, mJf, mRm, sIm, sJm, rwIm, rwJm, kN, nN, rN, true_and, e32, i8]
        first | exact go | exact ⟨rfl, go⟩ | exact ⟨i1.1, go⟩
      · rw [if_neg (fun w => w z2)] at hE
        have a2 := naP_0 hl z2
        refine x199_187 ?_
        simp only [mKm, mNm, mIm, mIf, mJm, mJf, mRm, sIm, sJm, rwIm, rwJm, kN, nN, rN, true_and, i2]
        rw [nI_1]
        refine hE.1 rfl _ (((g2 _).trans Fmn.s7).trans (Fmn.s60 (by omega))) (((c2 _).adv (by omega)).s60) (hla.add (fun i hi => ?_) ?_ (fun _ => ?_) (fun _ => u2s))
        · rw [u2i (by omega), u2n (by decide), u2i (by omega), u2n (by decide)]; exact old _ i hi
        · rw [u2i (by omega), u2n (by decide), u2i (by omega), u2n (by decide), u2s]
        · rw [u2i (by omega), u2n (by decide), u2s]
      · rw [if_pos z2] at hE
        exact fx187 (FA.set (nb z2)) (by omega) (fun I' hF' hw' => by obtain ⟨w, rfl⟩ := hw'; exact hE.2 z2 _ (((g2 _).trans Fmn.s8).trans (Fmn.s60 (by omega))) hF')
    · rw [if_pos z1] at hE
      have hF : ∀ v, FA (u2 (u2 (u2 (u2 I 247 7 (nI (j + 1))) 260 (125 + 3 * ln.length) (nI 1)) 247 8 (nI (naP tp nm true 0 (j + 1)))) 260 (125 + 3 * ln.length + 1) v) (naP tp nm true 0 (j + 1)) := fun v => (FA.set (nb z1)).s60
      simp only [mKm, mNm, mIm, mIf, mJm, mJf, mRm, sIm, sJm, rwIm, rwJm, kN, nN, rN, true_and, e31, i1, u2s]
      refine ifp (by decide) (ifn (by decide) ?_)
      have go : ∀ bb ll : Int32, CI G (d + 5) 200 [.ref 247, .int bb, .int ll] (mem r (u2 (u2 (u2 (u2 I 247 7 (nI (j + 1))) 260 (125 + 3 * ln.length) (nI 1)) 247 8 (nI (naP tp nm true 0 (j + 1)))) 260 (125 + 3 * ln.length + 1) 0) J) (fun v5 N6 => XX G (d + 5) (some .int) P199 (QI P) 187 [.ref 247, .int (nI ln.length), .int (nI 1), .int (nI (125 + 3 * ln.length))] [.int v5, .int (nI (125 + 3 * ln.length + 2)), .ref 260] N6) := fun bb ll => m200f (hF _) (fx187 (hF _) (by omega) (fun I' hF' hw' => by obtain ⟨w, rfl⟩ := hw'; exact hE.2 z1 _ ((((g1 _).trans Fmn.s8).trans (Fmn.s60 (by omega))).trans (Fmn.s60 (by omega))) hF'))
      simp only [mKm, mNm, mIm, mIf, mJm, mJf, mRm, sIm, sJm, rwIm, rwJm, kN, nN, rN, true_and, e32]
      first | exact go _ _ | exact ⟨rfl, go _ _⟩ | exact ⟨i1.1, go _ _⟩
  by_cases q12 : wiF tp j = 12
  · rw [q12] at hE ⊢
    have hE : NXT G (d + 5) P r I J tp N ln.length (if naP tp nm false 0 (j + 1) ≠ 0 then (naP tp nm false 0 (j + 1), j, ln) else if naP tp nm false (idF false nm (rkF tp (j + 1))) (j + 2) ≠ 0 then (naP tp nm false (idF false nm (rkF tp (j + 1))) (j + 2), j, ln) else (0, j + 3, ln ++ [(2, idF false nm (rkF tp (j + 1)) - 1, idF false nm (rkF tp (j + 2)) - 1)])) := hE
    refine ⟨rfl, ifp (by decide) (ifp (by decide) (x199_115 ⟨rfl, m200 (b := false) (no := 0) (c1 _) (hn.mn (g1 _)) hw hT hP i8 (by decide) (fun z1 => ?_) (fun z1 => ?_)⟩))⟩
    · rw [if_neg (fun w => w z1)] at hE
      have a1 := naP_0 hl z1
      simp only [mKm, mNm, mIm, mIf, mJm, mJf, mRm, sIm, sJm, rwIm, rwJm, kN, nN, rN, true_and, e31, i1, u2s]
      have c2 : ∀ v, RT (u2 (u2 (u2 (u2 I 247 7 (nI (j + 1))) 260 (125 + 3 * ln.length) (nI 2)) 247 7 (nI (j + 2))) 260 (125 + 3 * ln.length + 1) v) J tp N (j + 2) := fun v => ((c1 _).adv (by omega)).s60
      have g2 : ∀ v, Fmn I (u2 (u2 (u2 (u2 I 247 7 (nI (j + 1))) 260 (125 + 3 * ln.length) (nI 2)) 247 7 (nI (j + 2))) 260 (125 + 3 * ln.length + 1) v) := fun v => ((g1 _).trans Fmn.s7).trans (Fmn.s60 (by omega))
      refine ifp (by decide) (ifp (by decide) (ifn (by decide) ?_))
      have go := m200 (G := G) (d := d + 1) (r := r) (P := fun v5 N6 => XX G (d + 5) (some .int) P199 (QI P) 187 [.ref 247, .int (nI ln.length), .int (nI 2), .int (nI (125 + 3 * ln.length))] [.int v5, .int (nI (125 + 3 * ln.length + 2)), .ref 260] N6) (b := false) (no := (idF false nm (rkF tp (j + 1)))) (l := nI (idF false nm (rkF tp (j + 1)) - 1)) (c2 (nI (idF false nm (rkF tp (j + 1)) - 1))) (hn.mn (g2 _)) hw hT hP (by rw [if_neg a1.2.1]) (by first | decide | exact Nat.le_trans hib (by decide)) (fun z2 => ?_) (fun z2 => ?_)
      · simp only [mKm, mNm, mIm, mIf, mJm, mJf, mRm, sIm, sJm, rwIm, rwJm, kN, nN, rN, true_and, e32, i8]
        first | exact go | exact ⟨rfl, go⟩ | exact ⟨i1.1, go⟩
      · rw [if_neg (fun w => w z2)] at hE
        have a2 := naP_0 hl z2
        refine x199_187 ?_
        simp only [mKm, mNm, mIm, mIf, mJm, mJf, mRm, sIm, sJm, rwIm, rwJm, kN, nN, rN, true_and, i2]
        rw [nI_1]
        refine hE.1 rfl _ (((g2 _).trans Fmn.s7).trans (Fmn.s60 (by omega))) (((c2 _).adv (by omega)).s60) (hla.add (fun i hi => ?_) ?_ (fun _ => ?_) (fun _ => u2s))
        · rw [u2i (by omega), u2n (by decide), u2i (by omega), u2n (by decide)]; exact old _ i hi
        · rw [u2i (by omega), u2n (by decide), u2i (by omega), u2n (by decide), u2s]
        · rw [u2i (by omega), u2n (by decide), u2s]
      · rw [if_pos z2] at hE
        exact fx187 (FA.set (nb z2)) (by omega) (fun I' hF' hw' => by obtain ⟨w, rfl⟩ := hw'; exact hE.2 z2 _ (((g2 _).trans Fmn.s8).trans (Fmn.s60 (by omega))) hF')
    · rw [if_pos z1] at hE
      have hF : ∀ v, FA (u2 (u2 (u2 (u2 I 247 7 (nI (j + 1))) 260 (125 + 3 * ln.length) (nI 2)) 247 8 (nI (naP tp nm false 0 (j + 1)))) 260 (125 + 3 * ln.length + 1) v) (naP tp nm false 0 (j + 1)) := fun v => (FA.set (nb z1)).s60
      simp only [mKm, mNm, mIm, mIf, mJm, mJf, mRm, sIm, sJm, rwIm, rwJm, kN, nN, rN, true_and, e31, i1, u2s]
      refine ifp (by decide) (ifp (by decide) (ifn (by decide) ?_))
      have go : ∀ bb ll : Int32, CI G (d + 5) 200 [.ref 247, .int bb, .int ll] (mem r (u2 (u2 (u2 (u2 I 247 7 (nI (j + 1))) 260 (125 + 3 * ln.length) (nI 2)) 247 8 (nI (naP tp nm false 0 (j + 1)))) 260 (125 + 3 * ln.length + 1) 0) J) (fun v5 N6 => XX G (d + 5) (some .int) P199 (QI P) 187 [.ref 247, .int (nI ln.length), .int (nI 2), .int (nI (125 + 3 * ln.length))] [.int v5, .int (nI (125 + 3 * ln.length + 2)), .ref 260] N6) := fun bb ll => m200f (hF _) (fx187 (hF _) (by omega) (fun I' hF' hw' => by obtain ⟨w, rfl⟩ := hw'; exact hE.2 z1 _ ((((g1 _).trans Fmn.s8).trans (Fmn.s60 (by omega))).trans (Fmn.s60 (by omega))) hF'))
      simp only [mKm, mNm, mIm, mIf, mJm, mJf, mRm, sIm, sJm, rwIm, rwJm, kN, nN, rN, true_and, e32]
      first | exact go _ _ | exact ⟨rfl, go _ _⟩ | exact ⟨i1.1, go _ _⟩
  have q13 : wiF tp j = 13 := by omega
  rw [q13] at hE ⊢
  have hE : NXT G (d + 5) P r I J tp N ln.length (if naP tp nm false 0 (j + 1) ≠ 0 then (naP tp nm false 0 (j + 1), j, ln) else (0, j + 2, ln ++ [(3, idF false nm (rkF tp (j + 1)) - 1, 0)])) := hE
  refine ⟨rfl, ifp (by decide) (ifp (by decide) (x199_115 ⟨rfl, m200 (b := false) (no := 0) (c1 _) (hn.mn (g1 _)) hw hT hP i8 (by decide) (fun z1 => ?_) (fun z1 => ?_)⟩))⟩
  · rw [if_neg (fun w => w z1)] at hE
    have a1 := naP_0 hl z1
    simp only [mKm, mNm, mIm, mIf, mJm, mJf, mRm, sIm, sJm, rwIm, rwJm, kN, nN, rN, true_and, e31, i1, u2s]
    have c2 : ∀ v, RT (u2 (u2 (u2 (u2 I 247 7 (nI (j + 1))) 260 (125 + 3 * ln.length) (nI 3)) 247 7 (nI (j + 2))) 260 (125 + 3 * ln.length + 1) v) J tp N (j + 2) := fun v => ((c1 _).adv (by omega)).s60
    have g2 : ∀ v, Fmn I (u2 (u2 (u2 (u2 I 247 7 (nI (j + 1))) 260 (125 + 3 * ln.length) (nI 3)) 247 7 (nI (j + 2))) 260 (125 + 3 * ln.length + 1) v) := fun v => ((g1 _).trans Fmn.s7).trans (Fmn.s60 (by omega))
    refine ifp (by decide) (ifp (by decide) (ifp (by decide) ?_))
    simp only [mKm, mNm, mIm, mIf, mJm, mJf, mRm, sIm, sJm, rwIm, rwJm, kN, nN, rN, true_and, e32, i2]
    refine b199_186_188 ⟨rfl, ?_⟩
    rw [nI_1]
    refine hE.1 rfl _ ((g2 _).trans (Fmn.s60 (by omega))) (c2 _).s60 (hla.add (fun i hi => ?_) ?_ (fun _ => ?_) (fun z => absurd z (by decide)))
    · rw [u2i (by omega), u2i (by omega), u2n (by decide)]; exact old _ i hi
    · rw [u2i (by omega), u2i (by omega), u2n (by decide), u2s]
    · rw [u2i (by omega), u2s]
  · rw [if_pos z1] at hE
    have hF : ∀ v, FA (u2 (u2 (u2 (u2 I 247 7 (nI (j + 1))) 260 (125 + 3 * ln.length) (nI 3)) 247 8 (nI (naP tp nm false 0 (j + 1)))) 260 (125 + 3 * ln.length + 1) v) (naP tp nm false 0 (j + 1)) := fun v => (FA.set (nb z1)).s60
    simp only [mKm, mNm, mIm, mIf, mJm, mJf, mRm, sIm, sJm, rwIm, rwJm, kN, nN, rN, true_and, e31, i1, u2s]
    refine ifp (by decide) (ifp (by decide) (ifp (by decide) ?_))
    simp only [mKm, mNm, mIm, mIf, mJm, mJf, mRm, sIm, sJm, rwIm, rwJm, kN, nN, rN, true_and, e32, i2]
    exact fx188 (hF _).s60 (hE.2 z1 _ ((((g1 _).trans Fmn.s8).trans (Fmn.s60 (by omega))).trans (Fmn.s60 (by omega))) (hF _).s60)
end
