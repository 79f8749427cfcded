/-! the class's plan (4) -/
section
variable {G : GG} {d : Nat} {P : Int32 → mm_M → Prop} {r : Nat → Nat} {I : Nat → Nat → Int32} {J : Nat → Nat → Int64} {π : PLN}
theorem WP.t (h : WP π) : nT π ≤ 6 := h.1
theorem WP.p (h : WP π) : nP π ≤ 6 := h.2.1
theorem WP.pinch (h : WP π) : π.1 2 0 ≤ 5 := h.2.2.1
theorem WP.noon1 (h : WP π) : 1 ≤ π.1 3 0 := h.2.2.2.1
theorem WP.noon (h : WP π) : π.1 3 0 ≤ 6 := h.2.2.2.2.1
theorem WP.f (h : WP π) : nFr π ≤ 12 := h.2.2.2.2.2.1
theorem WP.tr (h : WP π) {i : Nat} (hi : i < nT π) : π.1 5 i < 4 ∧ π.1 6 i ≤ 30 ∧ π.1 7 i ≤ 20 := h.2.2.2.2.2.2.1 i hi
theorem WP.pe (h : WP π) {i : Nat} (hi : i < nP π) : π.1 9 i < 4 ∧ π.1 10 i ≤ 30 := h.2.2.2.2.2.2.2.1 i hi
theorem WP.fr (h : WP π) {i : Nat} (hi : i < nFr π) : π.1 12 i ≤ 3 := h.2.2.2.2.2.2.2.2.1 i hi
theorem WP.ok (h : WP π) : π.2 = [] ∨ okS π.2 0 := h.2.2.2.2.2.2.2.2.2.1
theorem WP.len (h : WP π) : π.2.length ≤ 1000 := h.2.2.2.2.2.2.2.2.2.2
theorem CP.tr (h : CP I π) {i : Nat} (hi : i < nT π) : I 5 i = nI (π.1 5 i) ∧ I 6 i = nI (π.1 6 i) ∧ I 7 i = nI (π.1 7 i) := h.2.1 i hi
theorem CP.pe (h : CP I π) {i : Nat} (hi : i < nP π) : I 9 i = nI (π.1 9 i) ∧ I 10 i = nI (π.1 10 i) := h.2.2.1 i hi
theorem CP.fr (h : CP I π) {i : Nat} (hi : i < nFr π) : I 12 i = nI (π.1 12 i) := h.2.2.2.1 i hi
theorem CP.n0 (h : CP I π) : I 4 0 = nI (nT π) := h.1 0 (by decide)
theorem CP.n1 (h : CP I π) : I 4 1 = nI (nP π) := h.1 1 (by decide)
theorem CP.n2 (h : CP I π) : I 4 2 = nI (π.1 2 0) := h.1 2 (by decide)
theorem CP.n3 (h : CP I π) : I 4 3 = nI (π.1 3 0) := h.1 3 (by decide)
theorem CP.n4 (h : CP I π) : I 4 4 = nI (nFr π) := h.1 4 (by decide)
/-- the plan's rows alone count -/
theorem CP.fr_of {I' : Nat → Nat → Int32} {l : List Nat} (h : CP I π) (hf : Fr l I I') (hl : ∀ a ∈ [4, 5, 6, 7, 9, 10, 12, 13, 14], a ∉ l) : CP I' π := by
  have e : ∀ a ∈ [4, 5, 6, 7, 9, 10, 12, 13, 14], I' a = I a := fun a ha => hf a (hl a ha)
  unfold CP
  simp only [e 4 (by decide), e 5 (by decide), e 6 (by decide), e 7 (by decide), e 9 (by decide), e 10 (by decide), e 12 (by decide), e 13 (by decide), e 14 (by decide)]
  exact h
theorem frF_le (hw : WP π) (y : Nat) : frF π y ≤ 3 := by
  unfold frF
  split
  · omega
  · rename_i h
    exact hw.fr (Nat.mod_lt _ (by omega))
theorem x200 {xs : Nat → Int32} : ∀ k, k < 4 → xrow xs 200 k = nI (stn k) ∧ xrow xs 201 k = nI (rdn k) := by
  intro k hk
  have h : k = 0 ∨ k = 1 ∨ k = 2 ∨ k = 3 := by omega
  rcases h with rfl | rfl | rfl | rfl <;> exact ⟨rfl, rfl⟩
theorem d54 {t : Nat} (hp : CP I π) (hw : WP π) (ht : t < nT π) (h : P 1 (mem r I J)) : CI G (d + 1) 54 [.ref 4, .int (nI t)] (mem r I J) P := by
  have h1 := hw.t
  refine e54 ?_
  simp only [mKm, mNm, mIm, mIf, mJm, mJf, mRm, sIm, sJm, rwIm, rwJm, kN, nN, rN, true_and, hp.n0]
  exact ifn (nI_pos (by omega)) (ifn (nI_ge ht (by omega)) h)
theorem d54o {t : Int32} (hp : CP I π) (ht : ¬ (0 ≤ t ∧ t < nI (nT π))) (h : P 0 (mem r I J)) : CI G (d + 1) 54 [.ref 4, .int t] (mem r I J) P := by
  refine e54 ?_
  simp only [mKm, mNm, mIm, mIf, mJm, mJf, mRm, sIm, sJm, rwIm, rwJm, kN, nN, rN, true_and, hp.n0]
  refine ifb (fun _ => h) (fun q => ifp ?_ h)
  refine Int32.not_lt.mp (fun q2 => ht ⟨Int32.not_lt.mp q, q2⟩)
theorem d58 {t : Nat} (hp : CP I π) (hw : WP π) (ht : t < nP π) (h : P 1 (mem r I J)) : CI G (d + 1) 58 [.ref 4, .int (nI t)] (mem r I J) P := by
  have h1 := hw.p
  refine e58 ?_
  simp only [mKm, mNm, mIm, mIf, mJm, mJf, mRm, sIm, sJm, rwIm, rwJm, kN, nN, rN, true_and, hp.n1]
  exact ifn (nI_pos (by omega)) (ifn (nI_ge ht (by omega)) h)
theorem d58o {t : Int32} (hp : CP I π) (ht : ¬ (0 ≤ t ∧ t < nI (nP π))) (h : P 0 (mem r I J)) : CI G (d + 1) 58 [.ref 4, .int t] (mem r I J) P := by
  refine e58 ?_
  simp only [mKm, mNm, mIm, mIf, mJm, mJf, mRm, sIm, sJm, rwIm, rwJm, kN, nN, rN, true_and, hp.n1]
  refine ifb (fun _ => h) (fun q => ifp ?_ h)
  refine Int32.not_lt.mp (fun q2 => ht ⟨Int32.not_lt.mp q, q2⟩)
theorem d55 {y : Nat} (hp : CP I π) (hw : WP π) (hy : y < 2 ^ 31) (h : P (nI (frF π y)) (mem r I J)) : CI G (d + 1) 55 [.ref 4, .int (nI y)] (mem r I J) P := by
  have h1 := hw.f
  refine e55 ?_
  simp only [mKm, mNm, mIm, mIf, mJm, mJf, mRm, sIm, sJm, rwIm, rwJm, kN, nN, rN, true_and, hp.n4]
  unfold frF at h
  by_cases h0 : nFr π = 0
  · rw [if_pos h0] at h
    exact ifp (by rw [h0]; decide) h
  · rw [if_neg h0] at h
    have h2 : y % nFr π < nFr π := Nat.mod_lt _ (by omega)
    have h3 : y % nFr π < 12 := by omega
    refine ifn (nI_nlt (b := 1) (by omega) (by omega)) (ifp (nI_pos' hy) ⟨nI_ne0 (by omega) (by omega), ?_⟩)
    rw [pk_rem hy (by omega) (by omega)]
    simp only [ix h3 (by decide), true_and, hp.fr h2]
    exact h
theorem d56 {t f : Nat} (hp : CP I π) (hw : WP π) (ht : t < nT π) (hf : f ≤ 3) (h : P (if f ≤ stn (π.1 5 t) then 1 else 0) (mem r I J)) : CI G (d + 2) 56 [.ref 4, .int (nI t), .int (nI f)] (mem r I J) P := by
  have h1 := hw.t
  have h2 := (hw.tr ht).1
  have h3 : t < 6 := by omega
  refine e56 ?_
  simp only [mKm, mNm, mIm, mIf, mJm, mJf, mRm, sIm, sJm, rwIm, rwJm, kN, nN, rN, true_and]
  refine d54 hp hw ht (ifn (by decide) ?_)
  simp only [mKm, mNm, mIm, mIf, mJm, mJf, mRm, sIm, sJm, rwIm, rwJm, kN, nN, rN, true_and, ix h3 (by decide), hp.tr ht, ix h2 (by decide), x200 _ h2]
  have h4 : stn (π.1 5 t) ≤ 3 := by unfold stn; split <;> (try split) <;> (try split) <;> omega
  by_cases h5 : f ≤ stn (π.1 5 t)
  · rw [if_pos h5] at h
    exact ifn (nI_nlt h5 (by omega)) h
  · rw [if_neg h5] at h
    exact ifp (nI_lt (by omega) (by omega)) h
theorem d56o {t f : Int32} (hp : CP I π) (ht : ¬ (0 ≤ t ∧ t < nI (nT π))) (h : P 0 (mem r I J)) : CI G (d + 2) 56 [.ref 4, .int t, .int f] (mem r I J) P := by
  refine e56 ?_
  simp only [mKm, mNm, mIm, mIf, mJm, mJf, mRm, sIm, sJm, rwIm, rwJm, kN, nN, rN, true_and]
  exact d54o hp ht (ifp rfl h)
theorem d60 {t : Nat} (hp : CP I π) (hw : WP π) (ht : t < nT π) (h : P (nI (rdn (π.1 5 t))) (mem r I J)) : CI G (d + 2) 60 [.ref 4, .int (nI t)] (mem r I J) P := by
  have h1 := hw.t
  have h2 := (hw.tr ht).1
  have h3 : t < 6 := by omega
  refine e60 ?_
  simp only [mKm, mNm, mIm, mIf, mJm, mJf, mRm, sIm, sJm, rwIm, rwJm, kN, nN, rN, true_and]
  refine d54 hp hw ht (ifn (by decide) ?_)
  simp only [mKm, mNm, mIm, mIf, mJm, mJf, mRm, sIm, sJm, rwIm, rwJm, kN, nN, rN, true_and, ix h3 (by decide), hp.tr ht, ix h2 (by decide), x200 _ h2]
  exact h
end
