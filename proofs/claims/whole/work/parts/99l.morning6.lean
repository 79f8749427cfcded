/-! morning: the class -/
section
variable {G : GG} {d : Nat} {P : Int32 → mm_M → Prop} {Pv : mm_M → Prop} {Q : Option Value → mm_M → Prop} {r : Nat → Nat} {I : Nat → Nat → Int32} {J : Nat → Nat → Int64} {π : PLN} {σ : Nat → Nat → Nat} {tp : List Nat} {y i j n f N : Nat} {nm : NMT} {ln : LN} {I' I2 : Nat → Nat → Int32} {J' J2 : Nat → Nat → Int64}
theorem n24 (ht : TA I tp) (hwt : WT tp) (hw : WN π nm) (hT : nT π ≤ 6) (hP : nP π ≤ 6) (h4 : I 4 0 = nI (nT π) ∧ I 4 1 = nI (nP π)) (hna : NA J nm) (h0 : (maP tp nm 1001 0 []).1 = 0 → ∀ I' J', Fcm I I' J J' → WL π (maP tp nm 1001 0 []).2 → LAs I' (maP tp nm 1001 0 []).2 → P 0 (mem r I' J')) (h1 : (maP tp nm 1001 0 []).1 ≠ 0 → (maP tp nm 1001 0 []).1 < 2 ^ 20 → ∀ I' J', Fcm I I' J J' → P (nI (maP tp nm 1001 0 []).1) (mem r I' J')) : CI G (d + 10) 24 [.ref 33, .ref 2, .ref 4] (mem r I J) P := by
  refine e24 ⟨rfl, rfl, e13 ⟨rfl, rfl, e89 ?_⟩⟩
  simp only [mKm, mNm, mIm, mIf, mJm, mJf, mRm, sIm, sJm, rwIm, rwJm, kN, nN, rN, true_and]
  have t2 : TA (u2 (u2 (u2 I 34 0 0) 2 8 0) 2 4 0) tp := by
    unfold TA
    rw [u2i (by decide), u2i (by decide), u2n (by decide), u2n (by decide), u2n (by decide), u2n (by decide)]
    exact ht
  have g2 : Fcm I (u2 (u2 (u2 I 34 0 0) 2 8 0) 2 4 0) J J := ⟨fun a q1 q2 _ => by rw [u2n q1, u2n q1, u2n (by omega)], by rw [u2i (by decide), u2i (by decide), u2n (by decide)], fun _ _ _ _ => rfl⟩
  refine d90 (q := 0) t2 hwt (Nat.zero_le _) (by rw [u2i (by decide), u2s]; rfl) (fun I3 J3 f3 c3 => ?_)
  have hc : CRD I3 J3 tp 0 := ⟨t2.fcl f3, hwt, c3, by rw [f3.2.2.1, u2s]⟩
  have e4 : I3 4 = I 4 := by rw [f3.1 4 (by decide), u2n (by decide), u2n (by decide), u2n (by decide)]
  have hla : LAs I3 [] := ⟨by show I3 34 0 = _; rw [f3.1 34 (by decide), u2n (by decide), u2n (by decide), u2s]; rfl, fun i hi => absurd hi (Nat.not_lt_zero _)⟩
  exact n24l hw hT hP 1001 0 0 I3 J3 [] (by decide) (Nat.le_refl _) (fun k hk => absurd hk (Nat.not_lt_zero _)) ⟨by decide, fun i hi => absurd hi (Nat.not_lt_zero _)⟩ hc hla (by rw [e4]; exact h4) (by unfold NA; rw [f3.2.2.2 8 (by decide), f3.2.2.2 11 (by decide)]; exact hna) (fun z I4 J4 f4 => h0 z I4 J4 ((g2.trans f3.cr.cm).trans f4)) (fun z z2 I4 J4 f4 => h1 z z2 I4 J4 ((g2.trans f3.cr.cm).trans f4))
/-- the lines read are taken over -/
theorem n15 (h : LAs I ln) (hl : ln.length ≤ 40) (hh : ∀ I', (∀ a, (a < 16 ∨ 19 < a) → I' a = I a) → LA I' ln → Pv (mem r I' J)) : CV G (d + 1) 15 [.ref 16, .ref 34] (mem r I J) Pv := by
  refine e15 ?_
  simp only [mKm, mNm, mIm, mIf, mJm, mJf, mRm, sIm, sJm, rwIm, rwJm, kN, nN, rN, true_and]
  try simp (disch := decide) only [u1n, u2n]
  refine ⟨by decide, b15_0_15 ?_⟩
  simp only [mKm, mNm, mIm, mIf, mJm, mJf, mRm, sIm, sJm, rwIm, rwJm, kN, nN, rN, true_and]
  try simp (disch := decide) only [u1n, u2n]
  refine ⟨by decide, b15_0_30 ?_⟩
  simp only [mKm, mNm, mIm, mIf, mJm, mJf, mRm, sIm, sJm, rwIm, rwJm, kN, nN, rN, true_and]
  try simp (disch := decide) only [u1n, u2n]
  refine ⟨by decide, b15_0_45 ?_⟩
  simp only [mKm, mNm, mIm, mIf, mJm, mJf, mRm, sIm, sJm, rwIm, rwJm, kN, nN, rN, true_and]
  try simp (disch := decide) only [u1n, u2n]
  refine ⟨rfl, hh _ (fun a ha => ?_) ⟨?_, fun i hi => ?_⟩⟩
  · rw [u2n (by omega), u1n (by omega), u1n (by omega), u1n (by omega)]
  · rw [u2s]; exact h.1
  · simp (disch := decide) only [u1n, u2n, u1s]
    rw [vcz (by omega), vcz (by omega), vcz (by omega)]
    exact h.2 i hi
end
