/-! the other side: frosts, E -/
def Frr (I I' : Nat → Nat → Int32) : Prop := (∀ a, a ≠ 247 → a ≠ 253 → I' a = I a) ∧ (∀ k, k ≠ 7 → k ≠ 8 → I' 247 k = I 247 k) ∧ ∀ x, x ≠ 54 → (x < 86 ∨ 98 ≤ x) → I' 253 x = I 253 x
section
variable {G : GG} {d : Nat} {P : Int32 → mm_M → Prop} {Pv : mm_M → Prop} {Q : Option Value → mm_M → Prop} {r : Nat → Nat} {I : Nat → Nat → Int32} {J : Nat → Nat → Int64} {π : PLN} {σ : Nat → Nat → Nat} {tp : List Nat} {y i j n f N : Nat} {nm : NMT} {s : OS} {I' I2 : Nat → Nat → Int32} {J' J2 : Nat → Nat → Int64}
theorem Frr.trans (h : Frr I I') (h' : Frr I' I2) : Frr I I2 := ⟨fun a a1 a2 => (h'.1 a a1 a2).trans (h.1 a a1 a2), fun k k1 k2 => (h'.2.1 k k1 k2).trans (h.2.1 k k1 k2), fun x x1 x2 => (h'.2.2 x x1 x2).trans (h.2.2 x x1 x2)⟩
theorem Frr.s7 {v : Int32} : Frr I (u2 I 247 7 v) := ⟨fun a a1 _ => u2n a1, fun k k1 _ => u2i k1, fun x _ _ => by rw [u2n (by decide)]⟩
theorem Frr.s8 {v : Int32} : Frr I (u2 I 247 8 v) := ⟨fun a a1 _ => u2n a1, fun k _ k1 => u2i k1, fun x _ _ => by rw [u2n (by decide)]⟩
theorem Frr.s53 {k : Nat} {v : Int32} (hk : k = 54 ∨ (86 ≤ k ∧ k < 98)) : Frr I (u2 I 253 k v) := ⟨fun a _ a1 => u2n a1, fun k _ _ => by rw [u2n (by decide)], fun x x1 x2 => u2i (by omega)⟩
theorem Frr.mr (h : Frr I I') : Fmr I I' J J := ⟨fun a a1 a2 a3 a4 a5 => h.1 a a1 a2, fun k k1 k2 k3 k4 k5 => h.2.1 k k1 k2, fun k hk => h.2.2 k (by omega) (by omega), fun k _ => ⟨by rw [h.1 254 (by decide) (by decide)], by rw [h.1 255 (by decide) (by decide)]⟩, fun _ _ => rfl⟩
theorem RT.s53 {k : Nat} {v : Int32} (h : RT I J tp N i) : RT (u2 I 253 k v) J tp N i := h.fr (by rw [u2n (by decide)]) (by rw [u2n (by decide)]) (by rw [u2n (by decide)]) (by rw [u2n (by decide)]) rfl rfl
theorem fx189 {y : Nat} (hF : FA I f) (hh : ∀ v, Pv (mem r (u2 I 253 54 v) J)) : XX G d none P189 (QV Pv) 2 [.ref 247, .int (nI y), jk] [] (mem r I J) := by
  refine x189_2 ⟨rfl, ifp hF.ne ?_⟩
  simp only [mKm, mNm, mIm, mIf, mJm, mJf, mRm, sIm, sJm, rwIm, rwJm, kN, nN, rN, true_and]
  exact ⟨(ix (show 54 < 100 by decide) (by decide)).1, rfl, hh _⟩
theorem m189l : ∀ n y j (I : Nat → Nat → Int32) (π : PLN), n + y = 12 → (y ≠ 0 → soF tp j = 2) → RT I J tp N j → (∀ i, i < y → I 253 (86 + i) = nI (π.1 12 i)) → ((frP tp n y j π).1 = 0 → ∀ I', Frr I I' → RT I' J tp N (frP tp n y j π).2.1 → I' 253 54 = nI (nFr (frP tp n y j π).2.2) → (∀ i, i < nFr (frP tp n y j π).2.2 → I' 253 (86 + i) = nI ((frP tp n y j π).2.2.1 12 i)) → Pv (mem r I' J)) → ((frP tp n y j π).1 ≠ 0 → ∀ I', Frr I I' → FA I' (frP tp n y j π).1 → Pv (mem r I' J)) → XX G (d + 2) none P189 (QV Pv) 2 [.ref 247, .int (nI y), jk] [] (mem r I J) := by
  intro n
  induction n with
  | zero =>
    intro y j I π hn hs h hr hy hno
    have e12 : y = 12 := by omega
    subst e12
    have hs := hs (by decide)
    have hl := h.l
    have hib := h.ib
    have hb4 := flt_b hl (j := j) (k := 4) (by decide) (by decide)
    have hb5 := flt_b hl (j := j) (k := 5) (by decide) (by decide)
    unfold frP at hno
    refine x189_2 ?_
    simp only [mKm, mNm, mIm, mIf, mJm, mJf, mRm, sIm, sJm, rwIm, rwJm, kN, nN, rN, true_and, h.ok, h.at, ix hib (by decide), h.s]
    refine ifn (fun z => z (by first | exact rfl | exact trivial)) (ifn (by decide) (ifn (fun z => z (by rw [hs]; rfl)) (m187 (lo := 0) (hi := 3) h (by decide) (by decide) (fun q => ?_) (fun q => ?_))))
    · have hnu := num_s hl q
      have hd : (if 3 < nuF tp j then flt tp 4 j else flt tp 5 j) = flt tp 5 j := if_neg (by omega)
      dsimp only at hno
      rw [hd] at hno
      have e8 : u2 I 247 7 (nI (j + 1)) 247 8 = 0 := by rw [u2i (by decide)]; exact h.ok
      have e7 : u2 I 247 7 (nI (j + 1)) 247 7 - 1 = nI j := by rw [u2s, nI_pred]
      simp only [mKm, mNm, mIm, mIf, mJm, mJf, mRm, sIm, sJm, rwIm, rwJm, kN, nN, rN, true_and, e8, e7]
      refine ifn (fun z => z (by first | exact rfl | exact trivial)) (ifn (fun z => z (by first | exact rfl | exact trivial)) ?_)
      have h2 : RT (u2 (u2 I 247 7 (nI (j + 1))) 247 7 (nI j)) J tp N j := h.fr (by rw [u2n (by decide), u2n (by decide)]) (by rw [u2n (by decide), u2n (by decide)]) (by rw [u2s]; exact h.at.symm) (by rw [u2i (by decide), u2i (by decide)]) rfl rfl
      refine m179 (k := 5) h2 (fx189 (FA.set hb5) (fun v => hno (by omega) _ (((Frr.s7.trans Frr.s7).trans Frr.s8).trans (Frr.s53 (Or.inl rfl))) ((FA.set hb5).fr (by rw [u2n (by decide)]))))
    · have hnb := num_b hl q
      have e4 : numP tp 0 3 j = flt tp 4 j := by
        unfold numP at q ⊢
        rw [if_pos hs] at q ⊢
        by_cases z : nuF tp j < 0 ∨ 3 < nuF tp j
        · rw [if_pos z]
        · rw [if_neg z] at q; exact absurd rfl q
      have h3 : 3 < nuF tp j := by
        by_cases z : 3 < nuF tp j
        · exact z
        · unfold numP at q
          rw [if_pos hs, if_neg (by omega)] at q
          exact absurd rfl q
      have hd : (if 3 < nuF tp j then flt tp 4 j else flt tp 5 j) = flt tp 4 j := if_pos h3
      dsimp only at hno
      rw [hd] at hno
      rw [e4]
      have hF := FA.set (I := I) hb4
      simp only [mKm, mNm, mIm, mIf, mJm, mJf, mRm, sIm, sJm, rwIm, rwJm, kN, nN, rN, true_and]
      refine ifp hF.ne (x189_64 ?_)
      simp only [mKm, mNm, mIm, mIf, mJm, mJf, mRm, sIm, sJm, rwIm, rwJm, kN, nN, rN, true_and]
      exact ifp hF.ne (fx189 hF (fun v => hno (by omega) _ (Frr.s8.trans (Frr.s53 (Or.inl rfl))) (hF.fr (by rw [u2n (by decide)]))))
  | succ n ih =>
    intro y j I π hn hs h hr hy hno
    have hl := h.l
    have hib := h.ib
    have h4 := (tok_b tp j).2.2.2.2
    have eu : frP tp (n + 1) y j π = if numP tp 0 3 j ≠ 0 then (numP tp 0 3 j, j, π) else if soF tp (j + 1) = 2 then frP tp n (y + 1) (j + 1) (setY π y (nuF tp j)) else (0, j + 1, setY π y (nuF tp j)) := rfl
    have go : CI G (d + 2) 187 [.ref 247, .int 0, .int 3] (mem r I J) (fun v1 N2 => mK N2 247 = 12 ∧ ifP (¬ (mI N2 247 8) = 0) (XX G (d + 2) none P189 (QV Pv) 64 [.ref 247, .int (nI y), .int v1] [] N2) (ifP (¬ nI y = 12) (XX G (d + 2) none P189 (QV Pv) 64 [.ref 247, .int (nI y), .int v1] [] N2) (mK N2 247 = 12 ∧ mK N2 247 = 12 ∧ mK (sI N2 247 7 ((mI N2 247 7) - 1)) 247 = 12 ∧ CV G (d + 2) 179 [.ref 247, .int 5] (sI N2 247 7 ((mI N2 247 7) - 1)) (fun N4 => XX G (d + 2) none P189 (QV Pv) 2 [.ref 247, .int (nI y), jk] [] N4)))) := by
      refine m187 (lo := 0) (hi := 3) h (by decide) (by decide) (fun q => ⟨rfl, ?_⟩) (fun q => ⟨rfl, ?_⟩)
      · have hnu := num_s hl q
        rw [eu, if_neg (fun z => z q)] at hy hno
        have h1 := h.adv (show soF tp j ≠ 0 by omega)
        have e8 : u2 I 247 7 (nI (j + 1)) 247 8 = 0 := h1.ok
        have e86 : (86 : Int32) + nI y = nI (86 + y) := nI_add 86 y
        simp only [mKm, mNm, mIm, mIf, mJm, mJf, mRm, sIm, sJm, rwIm, rwJm, kN, nN, rN, true_and, e8]
        refine ifn (fun z => z (by first | exact rfl | exact trivial)) (ifp (fun z => absurd ((nI_eq (b := 12) (by omega) (by decide)).mp z) (by omega)) (x189_64 ?_))
        simp only [mKm, mNm, mIm, mIf, mJm, mJf, mRm, sIm, sJm, rwIm, rwJm, kN, nN, rN, true_and, e8, e86, ix (show 86 + y < 100 by omega) (by decide), nI_1]
        refine ifn (fun z => z (by first | exact rfl | exact trivial)) ?_
        have h2 : RT (u2 (u2 I 247 7 (nI (j + 1))) 253 (86 + y) (nI (nuF tp j))) J tp N (j + 1) := h1.s53
        have f2 : Frr I (u2 (u2 I 247 7 (nI (j + 1))) 253 (86 + y) (nI (nuF tp j))) := Frr.s7.trans (Frr.s53 (Or.inr (by omega)))
        have e12 : ∀ i, (setY π y (nuF tp j)).1 12 i = if i = y then nuF tp j else π.1 12 i := fun i => by simp [setY]
        have hr2 : ∀ i, i < y + 1 → u2 (u2 I 247 7 (nI (j + 1))) 253 (86 + y) (nI (nuF tp j)) 253 (86 + i) = nI ((setY π y (nuF tp j)).1 12 i) := fun i hi => by
          rw [e12]
          by_cases e : i = y
          · rw [e, u2s, if_pos rfl]
          · rw [u2i (by omega), u2n (by decide), if_neg e]; exact hr i (by omega)
        by_cases q2 : soF tp (j + 1) = 2
        · rw [if_pos q2] at hy hno
          exact ih (y + 1) (j + 1) _ _ (by omega) (fun _ => q2) h2 hr2 (fun z I3 f3 => hy z I3 (f2.trans f3)) (fun z I3 f3 => hno z I3 (f2.trans f3))
        · rw [if_neg q2] at hy
          have hib2 := h2.ib
          have h42 := (tok_b tp (j + 1)).2.2.2.2
          refine x189_2 ?_
          simp only [mKm, mNm, mIm, mIf, mJm, mJf, mRm, sIm, sJm, rwIm, rwJm, kN, nN, rN, true_and, h2.ok, h2.at, ix hib2 (by decide), h2.s]
          refine ifn (fun z => z (by first | exact rfl | exact trivial)) (ifn (fun z => absurd ((nI_eq (b := 0) (by omega) (by decide)).mp z) (by omega)) (ifp (fun z => q2 ((nI_eq (b := 2) (by omega) (by decide)).mp z)) ?_))
          refine ⟨(ix (show 54 < 100 by decide) (by decide)).1, rfl, hy rfl _ (f2.trans (Frr.s53 (Or.inl rfl))) h2.s53 u2s (fun i hi => ?_)⟩
          have hi : i < y + 1 := hi
          rw [u2i (by omega)]
          exact hr2 i hi
      · have hnb := num_b hl q
        rw [eu, if_pos q] at hno
        have hF := FA.set (I := I) hnb
        simp only [mKm, mNm, mIm, mIf, mJm, mJf, mRm, sIm, sJm, rwIm, rwJm, kN, nN, rN, true_and]
        refine ifp hF.ne (x189_64 ?_)
        simp only [mKm, mNm, mIm, mIf, mJm, mJf, mRm, sIm, sJm, rwIm, rwJm, kN, nN, rN, true_and]
        exact ifp hF.ne (fx189 hF (fun v => hno q _ (Frr.s8.trans (Frr.s53 (Or.inl rfl))) (hF.fr (by rw [u2n (by decide)]))))
    refine x189_2 ?_
    simp only [mKm, mNm, mIm, mIf, mJm, mJf, mRm, sIm, sJm, rwIm, rwJm, kN, nN, rN, true_and, h.ok, h.at, ix hib (by decide), h.s]
    refine ifn (fun z => z (by first | exact rfl | exact trivial)) (ifb (fun z => ?_) (fun z => ifn (fun z2 => ?_) ?_))
    · first | exact go | (simp only [mKm, mNm, mIm, mIf, mJm, mJf, mRm, sIm, sJm, rwIm, rwJm, kN, nN, rN, true_and] at go; exact go)
    · exact z2 (by rw [hs (fun e => z (by rw [e]; rfl))]; rfl)
    · first | exact go | (simp only [mKm, mNm, mIm, mIf, mJm, mJf, mRm, sIm, sJm, rwIm, rwJm, kN, nN, rN, true_and] at go; exact go)
end
