/-! orchard -/
section
variable {G : GG} {d : Nat} {P : Int32 → mm_M → Prop} {Pv : mm_M → Prop} {Q : Option Value → mm_M → Prop} {r : Nat → Nat} {I : Nat → Nat → Int32} {J : Nat → Nat → Int64} {π : PLN} {σ : Nat → Nat → Nat} {tp : List Nat} {y i j n f N : Nat} {nm : NMT} {s : OS} {I' I2 : Nat → Nat → Int32} {J' J2 : Nat → Nat → Int64}
theorem n53 (hp : CPO I J s) (hW : WO s) (h : ∀ I' J', (∀ a, (a < 4 ∨ 14 < a) → I' a = I a) → (∀ a, a ≠ 8 → a ≠ 11 → J' a = J a) → CP I' s.1 → NA J' s.2.1 → Pv (mem r I' J')) : CV G (d + 2) 53 [.ref 4, .ref 21] (mem r I J) Pv := by
  obtain ⟨⟨c1, c2, c3, c4, c5, c6⟩, hn, ho⟩ := hp
  have c5 : I 30 2 = nI s.1.2.length := c5
  have hlen := hW.w.2.2.2.2.2.2.2.2.2.2
  have hcl : (nI s.1.2.length).toNatClampNeg = s.1.2.length := by exact (ix (show s.1.2.length < 1001 by omega) (by decide)).2
  refine e53 ?_
  simp only [mKm, mNm, mIm, mIf, mJm, mJf, mRm, sIm, sJm, rwIm, rwJm, kN, nN, rN, true_and, u2n]
  refine b53_0_16 ?_
  simp only [mKm, mNm, mIm, mIf, mJm, mJf, mRm, sIm, sJm, rwIm, rwJm, kN, nN, rN, true_and, u2n]
  refine b53_0_32 ?_
  simp only [mKm, mNm, mIm, mIf, mJm, mJf, mRm, sIm, sJm, rwIm, rwJm, kN, nN, rN, true_and, u2n]
  refine b53_0_55 ?_
  simp only [mKm, mNm, mIm, mIf, mJm, mJf, mRm, sIm, sJm, rwIm, rwJm, kN, nN, rN, true_and, u2n]
  refine b53_0_70 ?_
  simp only [mKm, mNm, mIm, mIf, mJm, mJf, mRm, sIm, sJm, rwIm, rwJm, kN, nN, rN, true_and, u2n]
  refine b53_0_85 ?_
  simp only [mKm, mNm, mIm, mIf, mJm, mJf, mRm, sIm, sJm, rwIm, rwJm, kN, nN, rN, true_and, u2n]
  refine b53_0_100 ?_
  simp only [mKm, mNm, mIm, mIf, mJm, mJf, mRm, sIm, sJm, rwIm, rwJm, kN, nN, rN, true_and, u2n]
  refine b53_0_115 ?_
  simp only [mKm, mNm, mIm, mIf, mJm, mJf, mRm, sIm, sJm, rwIm, rwJm, kN, nN, rN, true_and, u2n]
  refine b53_0_130 ?_
  simp only [mKm, mNm, mIm, mIf, mJm, mJf, mRm, sIm, sJm, rwIm, rwJm, kN, nN, rN, true_and, u2n]
  refine b53_0_145 ?_
  simp only [mKm, mNm, mIm, mIf, mJm, mJf, mRm, sIm, sJm, rwIm, rwJm, kN, nN, rN, true_and, u2n]
  refine b53_0_160 ?_
  simp only [mKm, mNm, mIm, mIf, mJm, mJf, mRm, sIm, sJm, rwIm, rwJm, kN, nN, rN, true_and, u2n]
  refine e8 ?_
  simp only [mKm, mNm, mIm, mIf, mJm, mJf, mRm, sIm, sJm, rwIm, rwJm, kN, nN, rN, true_and, u2n]
  sorry
end
