/-! the other side: a name, a tree, a person -/
section
variable {G : GG} {d : Nat} {P : Int32 → mm_M → Prop} {Pv : mm_M → Prop} {Q : Option Value → mm_M → Prop} {r : Nat → Nat} {I : Nat → Nat → Int32} {J : Nat → Nat → Int64} {π : PLN} {σ : Nat → Nat → Nat} {tp : List Nat} {y i j n f N : Nat} {nm : NMT} {s : OS} {I' I2 : Nat → Nat → Int32} {J' J2 : Nat → Nat → Int64}
/-- the memory behind a new name -/
def nmI (I : Nat → Nat → Int32) (x c l b j : Nat) : Nat → Nat → Int32 := u2 (u2 (u2 (u2 (u2 I 247 7 (nI (j + 1))) 259 l (nI (b + c))) 247 19 (nI (l + 1))) 247 7 (nI (j + 2))) 253 (50 + x) (nI (c + 1))
theorem m178 {x b c : Nat} (h : RT I J tp N j) (hx : x ≤ 1) (hbb : b ≤ 20) (hc : I 253 (50 + x) = nI c) (hc6 : c ≤ 6) (hs0 : soF tp j ≠ 0) (hn : I 247 19 = nI nm.length ∧ ∀ i, i < nm.length → J 257 i = lN (eB 37 (nW nm i)) ∧ I 259 i = nI (nC nm i)) (hl : nm.length ≤ 12) (hl2 : c < 6 → nm.length < 12) (hw : ∀ i, i < nm.length → wok (nW nm i) ∧ nC nm i < 100)
    (hy : c < 6 → nmB tp (j + 1) = true → ¬ NMD nm (rkF tp (j + 1)) → Pv (mem r (nmI I x c nm.length b j) (u2 J 257 nm.length (lN (eB 37 (rkF tp (j + 1)))))))
    (h5 : 6 ≤ c → Pv (mem r (u2 I 247 8 (nI (flt tp 5 j))) J))
    (h1 : c < 6 → nmB tp (j + 1) = false → Pv (mem r (u2 (u2 I 247 7 (nI (j + 1))) 247 8 (nI (flt tp 1 (j + 1)))) J))
    (h3 : c < 6 → nmB tp (j + 1) = true → NMD nm (rkF tp (j + 1)) → Pv (mem r (u2 (u2 I 247 7 (nI (j + 1))) 247 8 (nI (flt tp 3 (j + 1)))) J)) : CV G (d + 4) 178 [.ref 247, .int (nI x), .int (nI 6), .int (nI b)] (mem r I J) Pv := by
  have e0 : (50 : Int32) + nI x = nI (50 + x) := nI_add 50 x
  have i0 := ix (show 50 + x < 100 by omega) (by decide)
  have hL := h.l
  have hb : ∀ {k i : Nat}, 1 ≤ k → k ≤ 5 → 0 < flt tp k i ∧ flt tp k i < 2 ^ 20 := fun h1 h2 => flt_b hL h1 h2
  refine e178 ?_
  simp only [mKm, mNm, mIm, mIf, mJm, mJf, mRm, sIm, sJm, rwIm, rwJm, kN, nN, rN, true_and, e0, i0, hc]
  refine b178_0_11 ?_
  by_cases q : 6 ≤ c
  · have e6 : c = 6 := by omega
    subst e6
    exact ifn (fun z => z rfl) ⟨rfl, m179 (k := 5) h ⟨rfl, h5 q⟩⟩
  · refine ifp (fun z => q (Nat.le_of_eq ((nI_eq (b := 6) (by omega) (by decide)).mp z).symm)) ?_
    simp only [mKm, mNm, mIm, mIf, mJm, mJf, mRm, sIm, sJm, rwIm, rwJm, kN, nN, rN, true_and, h.at, nI_1]
    have a1 := h.adv hs0
    refine m180 a1 ?_
    cases q1 : nmB tp (j + 1) with
    | false =>
      have hb1 := hb (k := 1) (i := j + 1) (by decide) (by decide)
      refine ifn (fun z => z rfl) ⟨rfl, m179 (k := 1) a1 (x178_61 ?_)⟩
      simp only [mKm, mNm, mIm, mIf, mJm, mJf, mRm, sIm, sJm, rwIm, rwJm, kN, nN, rN, true_and]
      exact ifp (FA.set hb1).ne ⟨rfl, h1 (by omega) q1⟩
    | true =>
      have hs1 := nmB_1 q1
      have hib := a1.ib
      have hv := (a1.v (by omega)).1 hs1
      have hn' : u2 I 247 7 (nI (j + 1)) 247 19 = nI nm.length ∧ ∀ i, i < nm.length → J 257 i = lN (eB 37 (nW nm i)) ∧ u2 I 247 7 (nI (j + 1)) 259 i = nI (nC nm i) := by
        rw [u2i (by decide), u2n (by decide)]; exact hn
      refine ifp (by decide) ⟨rfl, m182 a1 hs1 hn' hl (fun i hi => (hw i hi).1) (fun k hk e => ifn ?_ ⟨rfl, m179 (k := 3) a1 ⟨rfl, ?_⟩⟩) (fun hno => ifp (by decide) (x178_61 ?_))⟩
      · exact nI_pos (by have := (hw k hk).2; omega)
      · have hb3 := hb (k := 3) (i := j + 1) (by decide) (by decide)
        simp only [mKm, mNm, mIm, mIf, mJm, mJf, mRm, sIm, sJm, rwIm, rwJm, kN, nN, rN, true_and]
        exact ifp (FA.set hb3).ne ⟨rfl, h3 (by omega) q1 ⟨k, hk, e⟩⟩
      · have hlen := hl2 (by omega)
        have e19 : u2 I 247 7 (nI (j + 1)) 247 19 = nI nm.length := hn'.1
        have e7 : u2 I 247 7 (nI (j + 1)) 247 7 = nI (j + 1) := u2s
        have e8 : u2 I 247 7 (nI (j + 1)) 247 8 = 0 := a1.ok
        simp only [mKm, mNm, mIm, mIf, mJm, mJf, mRm, sIm, sJm, rwIm, rwJm, kN, nN, rN, true_and, e19, e7, e8, ix hib (by decide), ix hlen (by decide), hv]
        refine ifn (fun z => z (by first | exact rfl | exact trivial)) (b178_61_86 ?_)
        have ebc : nI b + nI c = nI (b + c) := nI_add b c
        have e19' : ∀ v, u2 (u2 I 247 7 (nI (j + 1))) 259 nm.length v 247 19 = nI nm.length := fun v => by rw [u2n (by decide)]; exact e19
        simp only [mKm, mNm, mIm, mIf, mJm, mJf, mRm, sIm, sJm, rwIm, rwJm, kN, nN, rN, true_and, e19, ix hlen (by decide), ebc, e19', nI_1]
        refine b178_61_109 ?_
        have e7' : u2 (u2 (u2 I 247 7 (nI (j + 1))) 259 nm.length (nI (b + c))) 247 19 (nI (nm.length + 1)) 247 7 = nI (j + 1) := by rw [u2i (by decide), u2n (by decide)]; exact e7
        have e53 : u2 (u2 (u2 (u2 I 247 7 (nI (j + 1))) 259 nm.length (nI (b + c))) 247 19 (nI (nm.length + 1))) 247 7 (nI (j + 2)) 253 (50 + x) = nI c := by rw [u2n (by decide), u2n (by decide), u2n (by decide), u2n (by decide)]; exact hc
        simp only [mKm, mNm, mIm, mIf, mJm, mJf, mRm, sIm, sJm, rwIm, rwJm, kN, nN, rN, true_and, e7', nI_1, e0, i0, e53]
        exact b178_61_132 ⟨rfl, hy (by omega) q1 hno⟩
end
