/-! orchard -/
section
variable {G : GG} {d : Nat} {P : Int32 → mm_M → Prop} {Pv : mm_M → Prop} {Q : Option Value → mm_M → Prop} {r : Nat → Nat} {I : Nat → Nat → Int32} {J : Nat → Nat → Int64} {π : PLN} {σ : Nat → Nat → Nat} {tp : List Nat} {y i j n f N : Nat} {nm : NMT} {s : OS} {I' I2 : Nat → Nat → Int32} {J' J2 : Nat → Nat → Int64}
theorem vcz {α : Type} {f g : Nat → α} {n k : Nat} (hk : k < n) : va_cpy f g 0 0 n k = f k := by
  unfold va_cpy
  rw [if_pos ⟨by omega, by omega⟩, Nat.zero_add, Nat.sub_zero]
theorem n53 (hp : CPO I J s) (hW : WO s) (h : ∀ I' J', (∀ a, (a < 4 ∨ 14 < a) → I' a = I a) → (∀ a, a ≠ 8 → a ≠ 11 → J' a = J a) → CP I' s.1 → NA J' s.2.1 → Pv (mem r I' J')) : CV G (d + 2) 53 [.ref 4, .ref 21] (mem r I J) Pv := by
  obtain ⟨⟨c1, c2, c3, c4, c5, c6⟩, hn, ho⟩ := hp
  have c5 : I 30 2 = nI s.1.2.length := c5
  have hlen := hW.w.2.2.2.2.2.2.2.2.2.2
  have hcl : (nI s.1.2.length).toNatClampNeg = s.1.2.length := by exact (ix (show s.1.2.length < 1001 by omega) (by decide)).2
  refine e53 ?_
  simp only [mKm, mNm, mIm, mIf, mJm, mJf, mRm, sIm, sJm, rwIm, rwJm, kN, nN, rN, true_and]
  try simp (disch := decide) only [u1n, u2n, c5, hcl]
  refine b53_0_16 ?_
  simp only [mKm, mNm, mIm, mIf, mJm, mJf, mRm, sIm, sJm, rwIm, rwJm, kN, nN, rN, true_and]
  try simp (disch := decide) only [u1n, u2n, c5, hcl]
  refine b53_0_32 ?_
  simp only [mKm, mNm, mIm, mIf, mJm, mJf, mRm, sIm, sJm, rwIm, rwJm, kN, nN, rN, true_and]
  try simp (disch := decide) only [u1n, u2n, c5, hcl]
  refine ⟨by decide, b53_0_55 ?_⟩
  simp only [mKm, mNm, mIm, mIf, mJm, mJf, mRm, sIm, sJm, rwIm, rwJm, kN, nN, rN, true_and]
  try simp (disch := decide) only [u1n, u2n, c5, hcl]
  refine ⟨by decide, b53_0_70 ?_⟩
  simp only [mKm, mNm, mIm, mIf, mJm, mJf, mRm, sIm, sJm, rwIm, rwJm, kN, nN, rN, true_and]
  try simp (disch := decide) only [u1n, u2n, c5, hcl]
  refine ⟨by decide, b53_0_85 ?_⟩
  simp only [mKm, mNm, mIm, mIf, mJm, mJf, mRm, sIm, sJm, rwIm, rwJm, kN, nN, rN, true_and]
  try simp (disch := decide) only [u1n, u2n, c5, hcl]
  refine ⟨by decide, b53_0_100 ?_⟩
  simp only [mKm, mNm, mIm, mIf, mJm, mJf, mRm, sIm, sJm, rwIm, rwJm, kN, nN, rN, true_and]
  try simp (disch := decide) only [u1n, u2n, c5, hcl]
  refine ⟨by decide, b53_0_115 ?_⟩
  simp only [mKm, mNm, mIm, mIf, mJm, mJf, mRm, sIm, sJm, rwIm, rwJm, kN, nN, rN, true_and]
  try simp (disch := decide) only [u1n, u2n, c5, hcl]
  refine ⟨by decide, b53_0_130 ?_⟩
  simp only [mKm, mNm, mIm, mIf, mJm, mJf, mRm, sIm, sJm, rwIm, rwJm, kN, nN, rN, true_and]
  try simp (disch := decide) only [u1n, u2n, c5, hcl]
  refine ⟨by decide, b53_0_145 ?_⟩
  simp only [mKm, mNm, mIm, mIf, mJm, mJf, mRm, sIm, sJm, rwIm, rwJm, kN, nN, rN, true_and]
  try simp (disch := decide) only [u1n, u2n, c5, hcl]
  refine ⟨by decide, b53_0_160 ?_⟩
  simp only [mKm, mNm, mIm, mIf, mJm, mJf, mRm, sIm, sJm, rwIm, rwJm, kN, nN, rN, true_and]
  try simp (disch := decide) only [u1n, u2n, c5, hcl]
  refine e8 ?_
  simp only [mKm, mNm, mIm, mIf, mJm, mJf, mRm, sIm, sJm, rwIm, rwJm, kN, nN, rN, true_and]
  try simp (disch := decide) only [u1n, u2n, c5, hcl]
  refine ⟨⟨nI_pos (by omega), by omega, by omega⟩, b8_0_17 ?_⟩
  simp only [mKm, mNm, mIm, mIf, mJm, mJf, mRm, sIm, sJm, rwIm, rwJm, kN, nN, rN, true_and]
  try simp (disch := decide) only [u1n, u2n, c5, hcl]
  have hT := hW.t
  have hP := hW.p
  have hF := hW.w.2.2.2.2.2.1
  refine ⟨rfl, rfl, h _ _ (fun a ha => ?_) (fun a a1 a2 => ?_) ⟨fun k hk => ?_, fun i hi => ?_, fun i hi => ?_, fun i hi => ?_, ?_, fun i hi => ?_⟩ (fun i hi => ?_)⟩
  · rw [u2n (by omega), u1n (by omega), u1n (by omega), u1n (by omega), u1n (by omega), u1n (by omega), u1n (by omega), u1n (by omega), u2n (by omega), u2n (by omega), u2n (by omega), u2n (by omega), u2n (by omega)]
  · rw [u1n a2, u1n a1]
  · have e := c1 k hk
    have e : I 21 k = nI (s.1.1 k 0) := e
    simp (disch := decide) only [u1n, u2n]
    have : k = 0 ∨ k = 1 ∨ k = 2 ∨ k = 3 ∨ k = 4 := by omega
    rcases this with rfl | rfl | rfl | rfl | rfl
    · rw [u2i (by decide), u2i (by decide), u2i (by decide), u2i (by decide), u2s]; exact e
    · rw [u2i (by decide), u2i (by decide), u2i (by decide), u2s]; exact e
    · rw [u2i (by decide), u2i (by decide), u2s]; exact e
    · rw [u2i (by decide), u2s]; exact e
    · rw [u2s]; exact e
  · simp (disch := decide) only [u1n, u2n, u1s]
    rw [vcz (by omega), vcz (by omega), vcz (by omega)]; exact c2 i hi
  · simp (disch := decide) only [u1n, u2n, u1s]
    rw [vcz (by omega), vcz (by omega)]; exact c3 i hi
  · simp (disch := decide) only [u1n, u2n, u1s]
    rw [vcz (by omega)]; exact c4 i hi
  · rw [u2s]
  · simp (disch := decide) only [u1n, u2n, u1s]
    rw [vcz hi]; exact c6 i hi
  · have := hn i hi
    have hb := (hW.nn.2.1 i hi).2
    simp (disch := decide) only [u1n, u1s]
    refine ⟨fun z => ?_, fun z => ?_⟩
    · rw [vcz (by omega)]; exact this.1 z
    · rw [vcz (by omega)]; exact this.2 z
theorem n43 (h : ∀ I', (∀ a, a ≠ 54 → a ≠ 58 → I' a = I a) → I' 54 0 = 0 → (∀ m, m < 4 → I' 58 m = 0) → Pv (mem r I' J)) : CV G (d + 1) 43 [.ref 54] (mem r I J) Pv := by
  refine e43 ?_
  simp only [mKm, mNm, mIm, mIf, mJm, mJf, mRm, sIm, sJm, rwIm, rwJm, kN, nN, rN, true_and]
  have loop : ∀ m t (I2 : Nat → Nat → Int32), t + m = 4 → (∀ a, a ≠ 58 → I2 a = u2 I 54 0 0 a) → (∀ k, k < t → I2 58 k = 0) → XX G d none P43 (QV Pv) 7 [.ref 54, .int (nI t)] [] (mem r I2 J) := by
    intro m
    induction m with
    | zero =>
      intro t I2 ht h1 h2
      have e4 : t = 4 := by omega
      subst e4
      refine x43_7 (ifp (by decide) ⟨rfl, h I2 (fun a a1 a2 => by rw [h1 a a2, u2n a1]) (by rw [h1 54 (by decide), u2s]) h2⟩)
    | succ m ih =>
      intro t I2 ht h1 h2
      refine x43_7 (ifn (fun z => absurd ((nI_leI (a := 4) (by decide) (by omega)).mp z) (by omega)) ?_)
      simp only [mKm, mNm, mIm, mIf, mJm, mJf, mRm, sIm, sJm, rwIm, rwJm, kN, nN, rN, true_and, ix (show t < 4 by omega) (by decide)]
      refine b43_7_19 ?_
      rw [nI_1]
      refine ih (t + 1) _ (by omega) (fun a ha => by rw [u2n ha]; exact h1 a ha) (fun k hk => ?_)
      by_cases e : k = t
      · rw [e, u2s]; rfl
      · rw [u2i e]; exact h2 k (by omega)
  exact loop 4 0 _ rfl (fun a _ => rfl) (fun k hk => absurd hk (Nat.not_lt_zero _))
end
